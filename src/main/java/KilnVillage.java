/**
 * A village that turns pots, with one long kiln up a hill. The numbered promises of the
 * project's document say what each call answers; words in capitals there are plain names here.
 */
public final class KilnVillage {
    public static final int NONE = -1;

    private static final int NOTHING_TOLD = -1000000000;
    private static final int MOST_IMAGES = 3;
    private static final int MOST_HOUSES = 8;
    private static final int MOST_POTS = 24;
    private static final int MOST_ORDERS = 8;
    private static final int MOST_WET = 9;
    private static final int MOST_LOGS = 9;
    private static final int MOST_WORTH = 999;
    private static final int MOST_TOUGH = 999;
    private static final int MOST_VALUE = 99;
    private static final int MOST_DAYS = 30;
    private static final int MOST_DUE = 200;
    private static final int MOST_REST = 60;
    private static final int SHAPES = 5;
    private static final int GLAZES = 4;
    private static final int GLAZE_PARTS = 10;
    private static final int LEAST_CHAMBERS = 2;
    private static final int FIRST_CHAMBERS = 3;
    private static final int MOST_CHAMBERS = 6;
    private static final int SPOTS = 4;
    private static final int MOST_PLACES = 24;
    private static final int AIR_HEAT = 20;
    private static final int COLD_HEAT = 50;
    private static final int OPENING_HEAT = 200;
    private static final int MOST_BYTES = 300;
    private static final int FEED_BYTES = 20;
    private static final int MOST_LINES = 12;
    private static final int MOST_TESTS = 4;
    private static final int MOST_PART = 100;
    private static final int MOST_DIGITS = 3;

    private static final int CHAMBER = 0;
    private static final int SPOT = 1;
    private static final int SHAPE = 2;
    private static final int GLAZE = 3;
    private static final int HOUSE = 4;
    private static final int WET = 5;
    private static final int RIPE = 6;

    private static final int LESS = 1;
    private static final int SAME = 2;
    private static final int MORE = 4;

    private final Village now;
    private final Reader reader;
    // Null where no image has been made; one that has been made is used again.
    private final Village[] images;

    public KilnVillage() {
        now = new Village();
        reader = new Reader(now.tape);
        images = new Village[MOST_IMAGES];
    }

    public int feed(int a, int b, int c, int d, int e) {
        Tape tape = now.tape;
        if (tape.length + FEED_BYTES > MOST_BYTES) {
            return NONE;
        }
        tape.append(a);
        tape.append(b);
        tape.append(c);
        tape.append(d);
        tape.append(e);
        return tape.length;
    }

    public int end(int n) {
        if (!within(n, 0, now.tape.length)) {
            return NONE;
        }
        now.tape.length = n;
        return n;
    }

    public int custom() {
        reader.read();
        now.tape.length = 0;
        now.fault = reader.fault;
        now.faultPlace = reader.faultPlace;
        if (reader.fault != 0) {
            return NONE;
        }
        now.custom.copyFrom(reader.draft);
        return now.custom.lines;
    }

    public int fault(int what) {
        switch (what) {
            case 0: return now.fault;
            case 1: return now.faultPlace;
            default: return NONE;
        }
    }

    public int house() {
        if (now.houseCount >= MOST_HOUSES) {
            return NONE;
        }
        now.houseCount++;
        return now.houseCount - 1;
    }

    public boolean shape(int shape, int worth, int tough) {
        if (!within(shape, 0, SHAPES - 1) || !within(worth, 1, MOST_WORTH)
                || !within(tough, 1, MOST_TOUGH)) {
            return false;
        }
        now.shapeWorths[shape] = worth;
        now.shapeToughs[shape] = tough;
        return true;
    }

    public boolean glaze(int glaze, int ash) {
        if (!within(glaze, 0, GLAZES - 1) || !within(ash, 0, GLAZE_PARTS)) {
            return false;
        }
        now.glazeAshes[glaze] = ash;
        return true;
    }

    public boolean kiln(int chambers) {
        if (!within(chambers, LEAST_CHAMBERS, MOST_CHAMBERS) || now.standingPots() > 0) {
            return false;
        }
        now.kiln.build(chambers);
        return true;
    }

    public boolean value(int chamber, int spot, int value) {
        if (!now.kiln.hasPlace(chamber, spot) || !within(value, 1, MOST_VALUE)) {
            return false;
        }
        now.kiln.values[chamber * SPOTS + spot] = value;
        return true;
    }

    public int pot(int house, int shape, int glaze, int wet) {
        if (now.potCount >= MOST_POTS || !now.hasHouse(house) || !within(shape, 0, SHAPES - 1)
                || !within(glaze, 0, GLAZES - 1) || !within(wet, 0, MOST_WET)) {
            return NONE;
        }
        now.pots[now.potCount].turn(house, shape, glaze, wet);
        now.houses[house].everHadPot = true;
        now.potCount++;
        return now.potCount - 1;
    }

    public boolean dry(int n) {
        if (!within(n, 1, MOST_WET)) {
            return false;
        }
        now.dryWaiting(n);
        return true;
    }

    public int deal() {
        if (now.kiln.greatestHeat() > COLD_HEAT) {
            return NONE;
        }
        return now.dealPlaces();
    }

    public int spread() {
        return now.spreadOfHad();
    }

    public int fire(int chamber, int logs) {
        if (!now.kiln.hasChamber(chamber) || !within(logs, 0, MOST_LOGS)) {
            return NONE;
        }
        now.passHour(chamber, logs);
        return now.kiln.heats[chamber];
    }

    public int rest(int hours) {
        if (!within(hours, 1, MOST_REST)) {
            return NONE;
        }
        for (int hour = 0; hour < hours; hour++) {
            now.passHour(0, 0);
        }
        return now.kiln.greatestHeat();
    }

    public int heat(int chamber) {
        return now.kiln.hasChamber(chamber) ? now.kiln.heats[chamber] : NONE;
    }

    public int open() {
        if (now.kiln.greatestHeat() > OPENING_HEAT || now.standingPots() == 0) {
            return NONE;
        }
        return now.giveAllBack();
    }

    public int about(int pot, int what) {
        if (!within(pot, 0, now.potCount - 1)) {
            return NONE;
        }
        Pot asked = now.pots[pot];
        switch (what) {
            case 0: return asked.house;
            case 1: return asked.shape;
            case 2: return asked.glaze;
            case 3: return asked.wet;
            case 4: return asked.chamber;
            case 5: return asked.spot;
            case 6: return asked.cracked ? 1 : 0;
            case 7: return asked.ripe;
            case 8: return now.custom.partFor(asked);
            default: return NONE;
        }
    }

    public int at(int chamber, int spot) {
        return now.kiln.hasPlace(chamber, spot) ? now.kiln.holders[chamber * SPOTS + spot] : NONE;
    }

    public int tell(int house, int what) {
        if (!now.hasHouse(house)) {
            return NOTHING_TOLD;
        }
        House asked = now.houses[house];
        switch (what) {
            case 0: return asked.silver;
            case 1: return asked.had;
            case 2: return now.potsOf(house, false);
            case 3: return now.potsOf(house, true);
            case 4: return asked.orders;
            case 5: return asked.worthOf(asked.bestOrders());
            case 6: return asked.bestOrders();
            case 7: return asked.crackedBack;
            default: return NOTHING_TOLD;
        }
    }

    public int order(int house, int days, int due, int worth) {
        if (!now.hasHouse(house) || now.houses[house].orders >= MOST_ORDERS
                || !within(days, 1, MOST_DAYS) || !within(due, 1, MOST_DUE)
                || !within(worth, 1, MOST_WORTH)) {
            return NONE;
        }
        House asked = now.houses[house];
        asked.takeOrder(days, due, worth);
        return asked.orders - 1;
    }

    public boolean inTime(int house, int orders) {
        return now.hasHouse(house) && now.houses[house].hasOrders(orders)
                && now.houses[house].canDo(orders);
    }

    public boolean forget(int house) {
        if (!now.hasHouse(house)) {
            return false;
        }
        now.houses[house].orders = 0;
        return true;
    }

    public int count(int what) {
        switch (what) {
            case 0: return now.houseCount;
            case 1: return now.potCount;
            case 2: return now.standingPots();
            case 3: return now.kiln.hours;
            case 4: return now.kiln.logs;
            case 5: return now.openings;
            case 6: return now.custom.lines;
            case 7: return now.kiln.chambers;
            case 8: return now.kiln.heatsTogether();
            default: return NONE;
        }
    }

    public boolean image(int k) {
        if (!within(k, 0, MOST_IMAGES - 1)) {
            return false;
        }
        if (images[k] == null) {
            images[k] = new Village();
        }
        images[k].copyFrom(now);
        return true;
    }

    public boolean again(int k) {
        if (!within(k, 0, MOST_IMAGES - 1) || images[k] == null) {
            return false;
        }
        now.copyFrom(images[k]);
        return true;
    }

    private static boolean within(int number, int least, int most) {
        return number >= least && number <= most;
    }

    /** All that calls tell of, but for the images: so that an image is one copy of it. */
    private static final class Village {
        final Tape tape = new Tape();
        final Custom custom = new Custom();
        int fault = 0;
        int faultPlace = NONE;
        final House[] houses = new House[MOST_HOUSES];
        int houseCount = 0;
        final int[] shapeWorths = {10, 10, 10, 10, 10};
        final int[] shapeToughs = {200, 200, 200, 200, 200};
        final int[] glazeAshes = {5, 5, 5, 5};
        final Kiln kiln = new Kiln();
        final Pot[] pots = new Pot[MOST_POTS];
        int potCount = 0;
        int openings = 0;

        // All rows are made here and used again, so that calls on a village make no objects.
        Village() {
            for (int i = 0; i < MOST_HOUSES; i++) {
                houses[i] = new House();
            }
            for (int i = 0; i < MOST_POTS; i++) {
                pots[i] = new Pot();
            }
        }

        void copyFrom(Village other) {
            tape.copyFrom(other.tape);
            custom.copyFrom(other.custom);
            fault = other.fault;
            faultPlace = other.faultPlace;
            for (int i = 0; i < MOST_HOUSES; i++) {
                houses[i].copyFrom(other.houses[i]);
            }
            houseCount = other.houseCount;
            System.arraycopy(other.shapeWorths, 0, shapeWorths, 0, SHAPES);
            System.arraycopy(other.shapeToughs, 0, shapeToughs, 0, SHAPES);
            System.arraycopy(other.glazeAshes, 0, glazeAshes, 0, GLAZES);
            kiln.copyFrom(other.kiln);
            for (int i = 0; i < MOST_POTS; i++) {
                pots[i].copyFrom(other.pots[i]);
            }
            potCount = other.potCount;
            openings = other.openings;
        }

        boolean hasHouse(int house) {
            return within(house, 0, houseCount - 1);
        }

        int standingPots() {
            int standing = 0;
            for (int i = 0; i < potCount; i++) {
                if (pots[i].stands()) {
                    standing++;
                }
            }
            return standing;
        }

        int potsOf(int house, boolean standingOnly) {
            int found = 0;
            for (int i = 0; i < potCount; i++) {
                if (pots[i].house == house && (pots[i].stands() || !standingOnly)) {
                    found++;
                }
            }
            return found;
        }

        void dryWaiting(int much) {
            for (int i = 0; i < potCount; i++) {
                if (!pots[i].stands()) {
                    pots[i].wet = Math.max(0, pots[i].wet - much);
                }
            }
        }

        int dealPlaces() {
            int dealt = 0;
            for (int turn = 0; turn < MOST_PLACES; turn++) {
                int place = kiln.bestFreePlace();
                int pot = nextPot();
                if (place == NONE || pot == NONE) {
                    break;
                }
                kiln.holders[place] = pot;
                pots[pot].chamber = place / SPOTS;
                pots[pot].spot = place % SPOTS;
                houses[pots[pot].house].had += kiln.values[place];
                dealt++;
            }
            return dealt;
        }

        private int nextPot() {
            int next = NONE;
            for (int i = 0; i < potCount; i++) {
                if (!pots[i].stands()
                        && (next == NONE || goesBefore(pots[i].house, pots[next].house))) {
                    next = i;
                }
            }
            return next;
        }

        private boolean goesBefore(int house, int other) {
            int had = houses[house].had;
            int otherHad = houses[other].had;
            return had < otherHad || had == otherHad && house < other;
        }

        int spreadOfHad() {
            boolean any = false;
            int least = 0;
            int greatest = 0;
            for (int i = 0; i < houseCount; i++) {
                if (houses[i].everHadPot) {
                    int had = houses[i].had;
                    least = any ? Math.min(least, had) : had;
                    greatest = Math.max(greatest, had);
                    any = true;
                }
            }
            return greatest - least;
        }

        void passHour(int chamber, int logs) {
            kiln.burn(chamber, logs);
            for (int i = 0; i < potCount; i++) {
                Pot pot = pots[i];
                if (pot.stands() && !pot.cracked) {
                    pot.bear(kiln.heats[pot.chamber], kiln.changeOf(pot.chamber),
                            shapeToughs[pot.shape]);
                }
            }
        }

        int giveAllBack() {
            int whole = 0;
            int waiting = 0;
            for (int i = 0; i < potCount; i++) {
                Pot pot = pots[i];
                if (!pot.stands()) {
                    pots[waiting].copyFrom(pot);
                    waiting++;
                } else if (giveBack(pot)) {
                    whole++;
                }
            }
            potCount = waiting;
            kiln.clear();
            openings++;
            return whole;
        }

        /** Whether it brought its whole worth. */
        private boolean giveBack(Pot pot) {
            House owner = houses[pot.house];
            int worth = shapeWorths[pot.shape];
            if (pot.cracked) {
                owner.crackedBack++;
                shareLoss(owner, worth * custom.partFor(pot) / 100);
                return false;
            }
            boolean whole = isRipe(pot);
            owner.silver += whole ? worth : worth / 2;
            return whole;
        }

        private boolean isRipe(Pot pot) {
            int ash = glazeAshes[pot.glaze];
            int from = 8 * (GLAZE_PARTS - ash) + 20;
            return within(pot.ripe, from, from + 6 * ash);
        }

        private void shareLoss(House owner, int loss) {
            if (houseCount == 0) {
                return;
            }
            int share = loss / houseCount;
            for (int i = 0; i < houseCount; i++) {
                houses[i].silver -= share;
            }
            owner.silver += share * houseCount;
        }
    }

    private static final class House {
        int silver = 0;
        int had = 0;
        boolean everHadPot = false;
        int crackedBack = 0;
        int orders = 0;
        final int[] days = new int[MOST_ORDERS];
        final int[] dues = new int[MOST_ORDERS];
        final int[] worths = new int[MOST_ORDERS];
        // A set can be done in some row if it can be done with the soonest due first.
        final int[] byDue = new int[MOST_ORDERS];

        void copyFrom(House other) {
            silver = other.silver;
            had = other.had;
            everHadPot = other.everHadPot;
            crackedBack = other.crackedBack;
            orders = other.orders;
            System.arraycopy(other.days, 0, days, 0, MOST_ORDERS);
            System.arraycopy(other.dues, 0, dues, 0, MOST_ORDERS);
            System.arraycopy(other.worths, 0, worths, 0, MOST_ORDERS);
            System.arraycopy(other.byDue, 0, byDue, 0, MOST_ORDERS);
        }

        void takeOrder(int itsDays, int itsDue, int itsWorth) {
            if (orders >= MOST_ORDERS) {
                return;
            }
            days[orders] = itsDays;
            dues[orders] = itsDue;
            worths[orders] = itsWorth;
            int rank = orders;
            while (rank > 0 && dues[byDue[rank - 1]] > itsDue) {
                byDue[rank] = byDue[rank - 1];
                rank--;
            }
            byDue[rank] = orders;
            orders++;
        }

        boolean hasOrders(int bits) {
            return bits >>> orders == 0;
        }

        boolean canDo(int bits) {
            int day = 0;
            for (int rank = 0; rank < orders; rank++) {
                int order = byDue[rank];
                if ((bits >> order & 1) != 0) {
                    day += days[order];
                    if (day > dues[order]) {
                        return false;
                    }
                }
            }
            return true;
        }

        int worthOf(int bits) {
            int worth = 0;
            for (int order = 0; order < orders; order++) {
                if ((bits >> order & 1) != 0) {
                    worth += worths[order];
                }
            }
            return worth;
        }

        int bestOrders() {
            int best = 0;
            int bestWorth = 0;
            for (int bits = 1; bits < 1 << orders; bits++) {
                int worth = worthOf(bits);
                if (worth > bestWorth && canDo(bits)) {
                    best = bits;
                    bestWorth = worth;
                }
            }
            return best;
        }
    }

    private static final class Pot {
        int house = 0;
        int shape = 0;
        int glaze = 0;
        int wet = 0;
        int chamber = NONE;
        int spot = NONE;
        boolean cracked = false;
        int ripe = 0;

        void turn(int itsHouse, int itsShape, int itsGlaze, int itsWet) {
            house = itsHouse;
            shape = itsShape;
            glaze = itsGlaze;
            wet = itsWet;
            chamber = NONE;
            spot = NONE;
            cracked = false;
            ripe = 0;
        }

        void copyFrom(Pot other) {
            house = other.house;
            shape = other.shape;
            glaze = other.glaze;
            wet = other.wet;
            chamber = other.chamber;
            spot = other.spot;
            cracked = other.cracked;
            ripe = other.ripe;
        }

        boolean stands() {
            return chamber != NONE;
        }

        void bear(int heatNow, int change, int tough) {
            if (change > tough - 10 * wet) {
                cracked = true;
                return;
            }
            if (heatNow >= 600) {
                ripe += (heatNow - 600) / 50;
            }
            if (heatNow >= 100 && wet > 0) {
                wet--;
            }
        }

        int subject(int which) {
            switch (which) {
                case CHAMBER: return chamber == NONE ? 0 : chamber;
                case SPOT: return spot == NONE ? 0 : spot;
                case SHAPE: return shape;
                case GLAZE: return glaze;
                case HOUSE: return house;
                case WET: return wet;
                case RIPE: return ripe;
                default: return 0;
            }
        }
    }

    /** A place's row index is its chamber times SPOTS and its spot. */
    private static final class Kiln {
        int chambers = 0;
        int hours = 0;
        int logs = 0;
        final int[] heats = new int[MOST_CHAMBERS];
        // Asked for within an hour alone, so that images go without it.
        final int[] heatsBefore = new int[MOST_CHAMBERS];
        final int[] values = new int[MOST_PLACES];
        final int[] holders = new int[MOST_PLACES];

        Kiln() {
            build(FIRST_CHAMBERS);
            clear();
        }

        void build(int itsChambers) {
            chambers = itsChambers;
            for (int i = 0; i < MOST_CHAMBERS; i++) {
                heats[i] = AIR_HEAT;
            }
            for (int place = 0; place < MOST_PLACES; place++) {
                values[place] = 10 - place / SPOTS + place % SPOTS;
            }
        }

        void clear() {
            for (int place = 0; place < MOST_PLACES; place++) {
                holders[place] = NONE;
            }
        }

        void copyFrom(Kiln other) {
            chambers = other.chambers;
            hours = other.hours;
            logs = other.logs;
            System.arraycopy(other.heats, 0, heats, 0, MOST_CHAMBERS);
            System.arraycopy(other.values, 0, values, 0, MOST_PLACES);
            System.arraycopy(other.holders, 0, holders, 0, MOST_PLACES);
        }

        boolean hasChamber(int chamber) {
            return within(chamber, 0, chambers - 1);
        }

        boolean hasPlace(int chamber, int spot) {
            return hasChamber(chamber) && within(spot, 0, SPOTS - 1);
        }

        void burn(int chamber, int itsLogs) {
            System.arraycopy(heats, 0, heatsBefore, 0, MOST_CHAMBERS);
            for (int i = 0; i < chambers; i++) {
                heats[i] -= (heatsBefore[i] - AIR_HEAT) / 16;
            }
            for (int i = 0; i + 1 < chambers; i++) {
                int flow = (heatsBefore[i] - heatsBefore[i + 1]) / 4;
                heats[i] -= flow;
                heats[i + 1] += flow;
            }
            heats[chamber] += 60 * itsLogs;
            hours++;
            logs += itsLogs;
        }

        int changeOf(int chamber) {
            return Math.abs(heats[chamber] - heatsBefore[chamber]);
        }

        int greatestHeat() {
            int greatest = heats[0];
            for (int i = 1; i < chambers; i++) {
                greatest = Math.max(greatest, heats[i]);
            }
            return greatest;
        }

        int heatsTogether() {
            int sum = 0;
            for (int i = 0; i < chambers; i++) {
                sum += heats[i];
            }
            return sum;
        }

        int bestFreePlace() {
            int best = NONE;
            for (int place = 0; place < chambers * SPOTS; place++) {
                boolean better = best == NONE || values[place] > values[best];
                if (better && holders[place] == NONE) {
                    best = place;
                }
            }
            return best;
        }
    }

    private static final class Tape {
        final byte[] bytes = new byte[MOST_BYTES];
        int length = 0;

        void copyFrom(Tape other) {
            System.arraycopy(other.bytes, 0, bytes, 0, MOST_BYTES);
            length = other.length;
        }

        void append(int number) {
            for (int shift = 24; shift >= 0 && length < MOST_BYTES; shift -= 8) {
                bytes[length] = (byte) (number >> shift);
                length++;
            }
        }
    }

    /** A test's row index is its line times MOST_TESTS and its number in the line. */
    private static final class Custom {
        int lines = 0;
        final int[] parts = new int[MOST_LINES];
        final int[] tests = new int[MOST_LINES];
        final int[] subjects = new int[MOST_LINES * MOST_TESTS];
        // LESS, SAME and MORE, those that hold together: a 'not' is the other ones.
        final int[] relations = new int[MOST_LINES * MOST_TESTS];
        final int[] numbers = new int[MOST_LINES * MOST_TESTS];

        void copyFrom(Custom other) {
            lines = other.lines;
            System.arraycopy(other.parts, 0, parts, 0, MOST_LINES);
            System.arraycopy(other.tests, 0, tests, 0, MOST_LINES);
            System.arraycopy(other.subjects, 0, subjects, 0, MOST_LINES * MOST_TESTS);
            System.arraycopy(other.relations, 0, relations, 0, MOST_LINES * MOST_TESTS);
            System.arraycopy(other.numbers, 0, numbers, 0, MOST_LINES * MOST_TESTS);
        }

        int partFor(Pot pot) {
            for (int line = 0; line < lines; line++) {
                if (allHold(line, pot)) {
                    return parts[line];
                }
            }
            return 0;
        }

        private boolean allHold(int line, Pot pot) {
            for (int i = 0; i < tests[line]; i++) {
                if (!holds(line * MOST_TESTS + i, pot)) {
                    return false;
                }
            }
            return true;
        }

        private boolean holds(int test, Pot pot) {
            int told = pot.subject(subjects[test]);
            int number = numbers[test];
            int found = told < number ? LESS : told > number ? MORE : SAME;
            return (relations[test] & found) != 0;
        }
    }

    /** The tokens of a tape, and behind them one for the end; none behind one that is no token. */
    private static final class Tokens {
        private static final int AT_END = 0;
        private static final int NO_TOKEN = 1;
        private static final int NUMBER = 2;
        private static final int SUBJECT = 3;
        private static final int RELATION = 4;
        private static final int COLON = 5;
        private static final int SEMICOLON = 6;
        private static final int IF = 7;
        private static final int AND = 8;
        private static final int NOT = 9;
        private static final int BEAR = 10;
        private static final int PART = 11;

        private final Tape tape;
        final int[] kinds = new int[MOST_BYTES + 1];
        // A number itself, which subject, or which relation.
        final int[] meanings = new int[MOST_BYTES + 1];
        final int[] places = new int[MOST_BYTES + 1];
        private int first = 0;
        private int next = 0;
        private int meaning = 0;

        Tokens(Tape itsTape) {
            tape = itsTape;
        }

        void scan() {
            next = 0;
            int kind = NUMBER;
            for (int i = 0; i <= MOST_BYTES && kind != AT_END && kind != NO_TOKEN; i++) {
                meaning = 0;
                kind = scanOne();
                kinds[i] = kind;
                meanings[i] = meaning;
                places[i] = first;
            }
        }

        private int scanOne() {
            while (next < tape.length && isBlank(tape.bytes[next])) {
                next++;
            }
            first = next;
            if (next >= tape.length) {
                return AT_END;
            }
            if (isLetter(tape.bytes[next])) {
                return scanWord();
            }
            return isDigit(tape.bytes[next]) ? scanNumber() : scanSign();
        }

        private int scanWord() {
            while (next < tape.length && isLetter(tape.bytes[next])) {
                next++;
            }
            if (wordIs("if")) {
                return IF;
            }
            if (wordIs("and")) {
                return AND;
            }
            if (wordIs("not")) {
                return NOT;
            }
            if (wordIs("bear")) {
                return BEAR;
            }
            if (wordIs("part")) {
                return PART;
            }
            meaning = subjectOfWord();
            return meaning == NONE ? NO_TOKEN : SUBJECT;
        }

        private int subjectOfWord() {
            if (wordIs("chamber")) {
                return CHAMBER;
            }
            if (wordIs("spot")) {
                return SPOT;
            }
            if (wordIs("shape")) {
                return SHAPE;
            }
            if (wordIs("glaze")) {
                return GLAZE;
            }
            if (wordIs("house")) {
                return HOUSE;
            }
            if (wordIs("wet")) {
                return WET;
            }
            return wordIs("ripe") ? RIPE : NONE;
        }

        private boolean wordIs(String word) {
            if (word.length() != next - first) {
                return false;
            }
            for (int i = 0; i < word.length(); i++) {
                if (word.charAt(i) != tape.bytes[first + i]) {
                    return false;
                }
            }
            return true;
        }

        private int scanNumber() {
            while (next < tape.length && isDigit(tape.bytes[next])) {
                meaning = 10 * meaning + tape.bytes[next] - '0';
                next++;
            }
            return next - first > MOST_DIGITS ? NO_TOKEN : NUMBER;
        }

        private int scanSign() {
            int sign = tape.bytes[next];
            next++;
            switch (sign) {
                case ':': return COLON;
                case ';': return SEMICOLON;
                case '<': meaning = LESS; return RELATION;
                case '>': meaning = MORE; return RELATION;
                case '=': meaning = SAME; return RELATION;
                default: return NO_TOKEN;
            }
        }

        private static boolean isBlank(int sign) {
            return sign == 10 || sign == 32;
        }

        private static boolean isLetter(int sign) {
            return sign >= 'a' && sign <= 'z';
        }

        private static boolean isDigit(int sign) {
            return sign >= '0' && sign <= '9';
        }
    }

    /**
     * Reads a tape into a draft. What is one too many is noted, not kept, and reading goes on:
     * a fault 1 further on goes before it.
     */
    private static final class Reader {
        final Custom draft = new Custom();
        int fault = 0;
        int faultPlace = NONE;
        private final Tokens tokens;
        private int at = 0;

        Reader(Tape tape) {
            tokens = new Tokens(tape);
        }

        void read() {
            tokens.scan();
            at = 0;
            fault = 0;
            faultPlace = NONE;
            draft.lines = 0;
            boolean sound = true;
            for (int line = 0; line < MOST_BYTES && sound && !isAt(Tokens.AT_END); line++) {
                sound = readLine(line);
            }
            if (!sound) {
                fault = 1;
                faultPlace = tokens.places[at];
            }
        }

        /** Whether a text can go on so; if not, the token at hand is the one it can't go on with. */
        private boolean readLine(int line) {
            if (line < MOST_LINES) {
                draft.lines = line + 1;
                draft.tests[line] = 0;
                draft.parts[line] = 0;
            } else {
                note(3);
            }
            if (isAt(Tokens.IF) && !readCondition(line)) {
                return false;
            }
            return readDuty(line) && take(Tokens.SEMICOLON);
        }

        private boolean readCondition(int line) {
            boolean more = take(Tokens.IF);
            for (int test = 0; test < MOST_BYTES && more; test++) {
                if (!readTest(line, test)) {
                    return false;
                }
                more = take(Tokens.AND);
            }
            return take(Tokens.COLON);
        }

        private boolean readTest(int line, int test) {
            if (test >= MOST_TESTS) {
                note(3);
            }
            boolean not = take(Tokens.NOT);
            int start = at;
            boolean sound = take(Tokens.SUBJECT) && take(Tokens.RELATION) && take(Tokens.NUMBER);
            if (sound && line < MOST_LINES && test < MOST_TESTS) {
                keepTest(line, test, start, not);
            }
            return sound;
        }

        private void keepTest(int line, int test, int start, boolean not) {
            int row = line * MOST_TESTS + test;
            int relation = tokens.meanings[start + 1];
            draft.subjects[row] = tokens.meanings[start];
            draft.relations[row] = not ? LESS + SAME + MORE - relation : relation;
            draft.numbers[row] = tokens.meanings[start + 2];
            draft.tests[line] = test + 1;
        }

        private boolean readDuty(int line) {
            if (!take(Tokens.PART)) {
                return take(Tokens.BEAR);
            }
            int part = tokens.meanings[at];
            if (isAt(Tokens.NUMBER) && part > MOST_PART) {
                note(2);
            }
            if (line < MOST_LINES) {
                draft.parts[line] = part;
            }
            return take(Tokens.NUMBER);
        }

        private void note(int what) {
            if (fault == 0) {
                fault = what;
                faultPlace = tokens.places[at];
            }
        }

        private boolean isAt(int kind) {
            return tokens.kinds[at] == kind;
        }

        private boolean take(int kind) {
            if (!isAt(kind) || at >= MOST_BYTES) {
                return false;
            }
            at++;
            return true;
        }
    }
}
