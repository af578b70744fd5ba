import java.util.Random;

/**
 * All promises: runs of 512 calls, the same each time (their seeds are fixed), answered by the
 * program and by PlainVillage. Some arguments are wrong ones, some are far outside.
 */
public final class RandomCallsTest {
    private static final int RUNS = 600;
    private static final int CALLS = 512;
    private static final int[] FAR = {Integer.MIN_VALUE, Integer.MAX_VALUE, -1, 256, 1 << 30, -1000};

    private final Random random;
    private final KilnVillage x = new KilnVillage();
    private final PlainVillage y = new PlainVillage();
    private final String run;
    private final StringBuilder text = new StringBuilder();
    private int calls = 0;

    private RandomCallsTest(int seed) {
        random = new Random(seed);
        run = "run " + seed + ": ";
    }

    public static void main(String[] args) {
        for (int seed = 0; seed < RUNS && Checks.wrongSoFar() < 20; seed++) {
            new RandomCallsTest(seed).run();
        }
        Checks.finish();
    }

    private void run() {
        int mode = random.nextInt(4);
        // A firing makes fewer than a hundred calls.
        while (calls < CALLS - 100) {
            switch (mode) {
                case 0: anyCall(random.nextInt(27)); break;
                case 1: firing(); break;
                case 2: customs(); break;
                default: mixed(); break;
            }
        }
        // Any of them makes three calls at most.
        while (calls <= CALLS - 3) {
            anyCall(random.nextInt(27));
        }
    }

    private void mixed() {
        if (random.nextInt(8) == 0) {
            firing();
        } else {
            anyCall(random.nextInt(27));
        }
    }

    private void due(String call, long got, long want) {
        calls++;
        Checks.due(run + "call " + calls + ": " + call, got, want);
    }

    private void due(String call, boolean got, boolean want) {
        due(call, got ? 1 : 0, want ? 1 : 0);
    }

    /** Mostly from least to most, at times just outside, seldom far outside. */
    private int some(int least, int most) {
        int dice = random.nextInt(60);
        if (dice == 0) {
            return FAR[random.nextInt(FAR.length)];
        }
        if (dice < 3) {
            return dice == 1 ? least - 1 : most + 1;
        }
        if (dice < 8) {
            return dice < 5 ? least : most;
        }
        return least + random.nextInt(most - least + 1);
    }

    /** Houses, pots, dealing, hours and opening, in an order in which something comes of them. */
    private void firing() {
        for (int i = 0; i < 2 + random.nextInt(12); i++) {
            anyCall(5 + random.nextInt(6));
            anyCall(10);
        }
        if (random.nextInt(3) == 0) {
            int worth = some(1, 999);
            int n = random.nextInt(5);
            due("shape", x.shape(n, worth, 999), y.shape(n, worth, 999));
        }
        anyCall(12);
        int chamber = random.nextInt(3);
        for (int i = 0; i < random.nextInt(16); i++) {
            int logs = random.nextInt(10);
            due("fire", x.fire(chamber, logs), y.fire(chamber, logs));
            anyCall(18);
        }
        int hours = random.nextInt(2) == 0 ? 60 : 1 + random.nextInt(30);
        due("rest", x.rest(hours), y.rest(hours));
        due("open", x.open(), y.open());
        for (int house = 0; house < 3; house++) {
            due("tell 0", x.tell(house, 0), y.tell(house, 0));
            due("tell 7", x.tell(house, 7), y.tell(house, 7));
        }
    }

    private void customs() {
        text.setLength(0);
        for (int i = 0; i < random.nextInt(16); i++) {
            line();
        }
        spoil();
        if (text.length() > 300) {
            text.setLength(300);
        }
        due("end(0)", x.end(0), y.end(0));
        for (int i = 0; i < text.length(); i += 20) {
            int[] w = new int[5];
            for (int j = 0; j < 20; j++) {
                w[j / 4] = w[j / 4] << 8 | (i + j < text.length() ? text.charAt(i + j) : 0);
            }
            due("feed", x.feed(w[0], w[1], w[2], w[3], w[4]), y.feed(w[0], w[1], w[2], w[3], w[4]));
        }
        due("end", x.end(text.length()), y.end(text.length()));
        due("custom() of " + text, x.custom(), y.custom());
        due("fault(0) of " + text, x.fault(0), y.fault(0));
        due("fault(1) of " + text, x.fault(1), y.fault(1));
        anyCall(5);
        anyCall(10);
        anyCall(12);
        anyCall(14);
        for (int pot = 0; pot < 5; pot++) {
            due("about 8 by " + text, x.about(pot, 8), y.about(pot, 8));
        }
    }

    private String pick(String... words) {
        return words[random.nextInt(words.length)];
    }

    private void line() {
        if (random.nextInt(3) > 0) {
            text.append("if ");
            int tests = 1 + random.nextInt(random.nextInt(8) == 0 ? 6 : 2);
            for (int i = 0; i < tests; i++) {
                text.append(i > 0 ? pick(" and ", "\nand ") : "").append(pick("", "", "not "));
                text.append(pick("chamber", "spot", "shape", "glaze", "house", "wet", "ripe"));
                text.append(pick("<", ">", "=", " = ")).append(random.nextInt(5));
            }
            text.append(":");
        }
        text.append(pick("bear;", "part 100;", "part " + random.nextInt(103) + ";", "part 7 ;"));
    }

    private void spoil() {
        if (text.length() > 0 && random.nextInt(2) == 0) {
            int at = random.nextInt(text.length());
            switch (random.nextInt(4)) {
                case 0: text.deleteCharAt(at); break;
                case 1: text.setCharAt(at, (char) random.nextInt(256)); break;
                case 2: text.insert(at, pick("not ", " and ", "if ", ";", ":", "12", "<", "bear;", " part ", "x")); break;
                default: text.setLength(at); break;
            }
        }
    }

    private void anyCall(int which) {
        if (which < 9) {
            callsOfMaking(which);
        } else if (which < 18) {
            callsOfFiring(which);
        } else {
            callsOfTelling(which);
        }
    }

    private void callsOfMaking(int which) {
        int a = some(0, 4);
        int b = some(1, 999);
        int c = some(1, 999);
        switch (which) {
            case 0: due("feed", x.feed(a, b, c, 0x62656172, 0x3b202020), y.feed(a, b, c, 0x62656172, 0x3b202020)); break;
            case 1: due("end", x.end(b), y.end(b)); break;
            case 2: due("custom", x.custom(), y.custom()); break;
            case 3: due("fault", x.fault(a), y.fault(a)); break;
            case 4: customOfOneLine(); break;
            case 5: due("house", x.house(), y.house()); break;
            case 6: due("shape", x.shape(a, b, c), y.shape(a, b, c)); break;
            case 7: glazeOrKiln(); break;
            default: due("spread", x.spread(), y.spread()); break;
        }
    }

    private void glazeOrKiln() {
        int glaze = some(0, 3);
        int ash = some(0, 10);
        due("glaze", x.glaze(glaze, ash), y.glaze(glaze, ash));
        int chambers = some(2, 6);
        due("kiln", x.kiln(chambers), y.kiln(chambers));
    }

    private void customOfOneLine() {
        due("end(0)", x.end(0), y.end(0));
        due("feed", x.feed(0x70617274, 0x2035303b, 0x20202020, 0x20202020, 0x20202020),
                y.feed(0x70617274, 0x2035303b, 0x20202020, 0x20202020, 0x20202020));
        due("custom", x.custom(), y.custom());
    }

    private void callsOfFiring(int which) {
        int a = some(0, 5);
        int b = some(0, 3);
        int c = some(0, 9);
        int d = some(0, 4);
        int e = some(1, 60);
        switch (which) {
            case 9: due("value", x.value(a, b, e), y.value(a, b, e)); break;
            case 10: due("pot", x.pot(a, d, b, c), y.pot(a, d, b, c)); break;
            case 11: due("dry", x.dry(c), y.dry(c)); break;
            case 12: due("deal", x.deal(), y.deal()); break;
            case 13: due("fire", x.fire(a, c), y.fire(a, c)); break;
            case 14: due("rest", x.rest(e), y.rest(e)); break;
            case 15: due("heat", x.heat(a), y.heat(a)); break;
            case 16: due("open", x.open(), y.open()); break;
            default: due("at", x.at(a, b), y.at(a, b)); break;
        }
    }

    private void callsOfTelling(int which) {
        int pot = some(0, 23);
        int house = some(0, 3);
        int what = some(0, 8);
        int k = some(0, 2);
        int days = some(1, 30);
        int due = some(1, 200);
        int worth = some(1, random.nextBoolean() ? 5 : 999);
        int bits = some(0, random.nextBoolean() ? 3 : 255);
        switch (which) {
            case 18: due("about", x.about(pot, what), y.about(pot, what)); break;
            case 19: due("tell", x.tell(house, what), y.tell(house, what)); break;
            case 20:
            case 21: due("order", x.order(house, days, due, worth), y.order(house, days, due, worth)); break;
            case 22: due("inTime", x.inTime(house, bits), y.inTime(house, bits)); break;
            case 23:
                if (random.nextInt(4) == 0) {
                    due("forget", x.forget(house), y.forget(house));
                }
                break;
            case 24: due("count", x.count(what), y.count(what)); break;
            case 25: due("image", x.image(k), y.image(k)); break;
            default: due("again", x.again(k), y.again(k)); break;
        }
    }
}
