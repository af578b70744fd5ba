/** Promises 1 and 6 to 12, and Terms 1: their boundary cases, one by one. */
public final class VillageEdgesTest {
    private static final int MIN = Integer.MIN_VALUE;
    private static final int MAX = Integer.MAX_VALUE;

    public static void main(String[] args) {
        newHasNoHouses();
        newHasNoPots();
        newHasNoCustom();
        newIsCold();
        newHasNoImages();
        housesGoUpTo8();
        housesAreNewEachTime();
        shapesGoFrom0To4();
        worthsGoFrom1To999();
        toughsGoFrom1To999();
        shapesAreFromNowOn();
        refusedShapesStay();
        glazesGoFrom0To3();
        ashGoesFrom0To10();
        refusedGlazesStay();
        chambersGoFrom2To6();
        kilnIsAsAtFirstAgain();
        kilnStaysWhileAPotStands();
        spotsGoFrom0To3();
        valuesGoFrom1To99();
        valuesAreAsAtFirst();
        valuesAreFromNowOn();
        refusedValuesStay();
        potsGoUpTo24();
        potsOfEachKind();
        refusedPotsAreNone();
        dryingGoesFrom1To9();
        wetIs0AtLeast();
        thoseThatStandDoNotDry();
        Checks.finish();
    }

    private static KilnVillage village(int houses) {
        KilnVillage x = new KilnVillage();
        for (int i = 0; i < houses; i++) {
            x.house();
        }
        return x;
    }

    /** "No HOUSES" */
    private static void newHasNoHouses() {
        KilnVillage x = new KilnVillage();
        Checks.due("count(0)", x.count(0), 0);
        for (int what = 0; what < 8; what++) {
            Checks.due("tell(0, " + what + ")", x.tell(0, what), -1000000000);
        }
        Checks.due("pot", x.pot(0, 0, 0, 0), -1);
        Checks.due("order", x.order(0, 1, 1, 1), -1);
        Checks.due("inTime", x.inTime(0, 0), false);
        Checks.due("forget", x.forget(0), false);
        Checks.due("spread()", x.spread(), 0);
    }

    /** "no POTS" */
    private static void newHasNoPots() {
        KilnVillage x = new KilnVillage();
        Checks.due("count(1)", x.count(1), 0);
        Checks.due("count(2)", x.count(2), 0);
        for (int what = 0; what < 9; what++) {
            Checks.due("about(0, " + what + ")", x.about(0, what), -1);
        }
        for (int place = 0; place < 12; place++) {
            Checks.due("at place " + place, x.at(place / 4, place % 4), -1);
        }
        Checks.due("open()", x.open(), -1);
        Checks.due("deal()", x.deal(), 0);
        Checks.due("dry(1)", x.dry(1), true);
    }

    /** "no CUSTOM (0)" */
    private static void newHasNoCustom() {
        KilnVillage x = village(1);
        x.pot(0, 0, 0, 0);
        Checks.due("count(6)", x.count(6), 0);
        Checks.due("about(0, 8)", x.about(0, 8), 0);
        Checks.due("fault(0)", x.fault(0), 0);
        Checks.due("fault(1)", x.fault(1), -1);
        Checks.due("end(1)", x.end(1), -1);
        Checks.due("end(0)", x.end(0), 0);
        Checks.due("custom()", x.custom(), 0);
    }

    /** "the kiln COLD", "n 2 .. 6 (3 at first)", "a HEAT (20 at first)" */
    private static void newIsCold() {
        KilnVillage x = new KilnVillage();
        Checks.due("count(7)", x.count(7), 3);
        Checks.due("count(8)", x.count(8), 60);
        Checks.due("heat(0)", x.heat(0), 20);
        Checks.due("heat(2)", x.heat(2), 20);
        Checks.due("heat(3)", x.heat(3), -1);
        Checks.due("deal()", x.deal(), 0);
        for (int what = 3; what <= 5; what++) {
            Checks.due("count(" + what + ")", x.count(what), 0);
        }
    }

    /** "no images" */
    private static void newHasNoImages() {
        KilnVillage x = new KilnVillage();
        for (int k = 0; k < 3; k++) {
            Checks.due("again(" + k + ")", x.again(k), false);
        }
    }

    /** "HOUSES, at most 8", "NONE: there are 8." */
    private static void housesGoUpTo8() {
        KilnVillage x = new KilnVillage();
        for (int i = 0; i < 8; i++) {
            Checks.due("pot of a house to come", x.pot(i, 0, 0, 0), -1);
            Checks.due("house()", x.house(), i);
            Checks.due("count(0)", x.count(0), i + 1);
            Checks.due("SILVER at first", x.tell(i, 0), 0);
            Checks.due("HAD at first", x.tell(i, 1), 0);
            Checks.due("pot of a house", x.pot(i, 0, 0, 0), i);
        }
        for (int i = 0; i < 3; i++) {
            Checks.due("a 9th house()", x.house(), -1);
            Checks.due("count(0)", x.count(0), 8);
            Checks.due("tell(8, 0)", x.tell(8, 0), -1000000000);
            Checks.due("pot(8, ..)", x.pot(8, 0, 0, 0), -1);
        }
    }

    /** A house that comes where an image took one away has nothing of that one. */
    private static void housesAreNewEachTime() {
        KilnVillage x = village(1);
        x.image(0);
        Checks.due("house()", x.house(), 1);
        x.shape(0, 90, 20);
        Checks.takes(x, "part 100;", 1);
        x.pot(1, 0, 0, 3);
        x.pot(1, 1, 0, 0);
        x.deal();
        x.rest(1);
        x.open();
        x.order(1, 1, 1, 9);
        Checks.due("SILVER", x.tell(1, 0), 50);
        Checks.due("cracked", x.tell(1, 7), 1);
        x.again(0);
        x.pot(0, 0, 0, 0);
        x.deal();
        Checks.due("house()", x.house(), 1);
        for (int what = 0; what < 8; what++) {
            Checks.due("tell(1, " + what + ") of a new house", x.tell(1, what), 0);
        }
        Checks.due("it never had a POT", x.spread(), 0);
        Checks.due("it has no ORDER", x.inTime(1, 1), false);
    }

    /** "SHAPES 0 .. 4" */
    private static void shapesGoFrom0To4() {
        KilnVillage x = village(1);
        for (int shape = 0; shape <= 4; shape++) {
            Checks.due("shape(" + shape + ", ..)", x.shape(shape, 100 + 2 * shape, 300), true);
            Checks.due("pot", x.pot(0, shape, 0, 0), shape);
        }
        for (int shape : new int[] {-1, 5, MIN, MAX}) {
            Checks.due("shape(" + shape + ", ..)", x.shape(shape, 30, 30), false);
        }
        x.deal();
        Checks.due("open()", x.open(), 0);
        Checks.due("half of each", x.tell(0, 0), 50 + 51 + 52 + 53 + 54);
    }

    private static int halfOf(int worth) {
        KilnVillage x = village(1);
        x.pot(0, 2, 0, 0);
        Checks.due("shape(2, " + worth + ", 1)", x.shape(2, worth, 1), true);
        x.deal();
        Checks.due("open()", x.open(), 0);
        return x.tell(0, 0);
    }

    /** "a WORTH, 1 .. 999 (10 at first)" */
    private static void worthsGoFrom1To999() {
        KilnVillage x = village(1);
        for (int shape = 0; shape <= 4; shape++) {
            for (int worth : new int[] {0, 1000, -1, MIN, MAX}) {
                Checks.due("shape(" + shape + ", " + worth + ", 1)", x.shape(shape, worth, 1), false);
            }
            Checks.due("shape(" + shape + ", 1, 1)", x.shape(shape, 1, 1), true);
            Checks.due("shape(" + shape + ", 999, 1)", x.shape(shape, 999, 1), true);
        }
        Checks.due("half of 1", halfOf(1), 0);
        Checks.due("half of 2", halfOf(2), 1);
        Checks.due("half of 998", halfOf(998), 499);
        Checks.due("half of 999", halfOf(999), 499);
        for (int shape = 0; shape <= 4; shape++) {
            KilnVillage y = village(1);
            y.pot(0, shape, 0, 0);
            y.deal();
            y.open();
            Checks.due("half of the first WORTH of " + shape, y.tell(0, 0), 5);
        }
    }

    /** In a kiln of two; the TOUGH goes for the last of the hours alone. */
    private static int crackedBy(int tough, int[] logs) {
        KilnVillage x = village(1);
        x.kiln(2);
        Checks.due("shape(0, 10, 999)", x.shape(0, 10, 999), true);
        x.pot(0, 0, 0, 0);
        x.deal();
        for (int i = 0; i < logs.length - 1; i++) {
            x.fire(0, logs[i]);
        }
        Checks.due("shape(0, 10, " + tough + ")", x.shape(0, 10, tough), true);
        x.fire(0, logs[logs.length - 1]);
        return x.about(0, 6);
    }

    /** "a TOUGH, 1 .. 999 (200 at first)" */
    private static void toughsGoFrom1To999() {
        KilnVillage x = village(1);
        for (int shape = 0; shape <= 4; shape++) {
            for (int tough : new int[] {0, 1000, -1, MIN, MAX}) {
                Checks.due("shape(" + shape + ", 1, " + tough + ")", x.shape(shape, 1, tough), false);
            }
        }
        // 512 goes to 513: 89 goes over, 30 is lost, 120 comes.
        Checks.due("a change by 1, TOUGH 1", crackedBy(1, new int[] {9, 2, 2}), 0);
        // 422 goes to 421: 96 goes over, 25 is lost, 120 comes.
        Checks.due("a change by -1, TOUGH 1", crackedBy(1, new int[] {1, 6, 2}), 0);
        Checks.due("a change by 60, TOUGH 1", crackedBy(1, new int[] {1}), 1);
        Checks.due("a change by 60, TOUGH 59", crackedBy(59, new int[] {1}), 1);
        Checks.due("a change by 60, TOUGH 60", crackedBy(60, new int[] {1}), 0);
        Checks.due("a change by 540, TOUGH 539", crackedBy(539, new int[] {9}), 1);
        Checks.due("a change by 540, TOUGH 540", crackedBy(540, new int[] {9}), 0);
        Checks.due("a change by 540, TOUGH 999", crackedBy(999, new int[] {9}), 0);
        Checks.due("a change by -168, TOUGH 167", crackedBy(167, new int[] {9, 0}), 1);
        Checks.due("a change by -168, TOUGH 168", crackedBy(168, new int[] {9, 0}), 0);
    }

    /** "from now on": for POTS that are there already, too, and not for what is done. */
    private static void shapesAreFromNowOn() {
        KilnVillage x = village(1);
        x.pot(0, 3, 0, 0);
        x.deal();
        x.shape(3, 80, 40);
        Checks.due("open()", x.open(), 0);
        Checks.due("half of 80", x.tell(0, 0), 40);
        x.shape(3, 20, 40);
        Checks.due("what is paid stays", x.tell(0, 0), 40);
    }

    /** "false for others": one wrong number of three, and none of the others comes. */
    private static void refusedShapesStay() {
        int[][] wrong = {{0, 50}, {1000, 50}, {50, 0}, {50, 1000}, {MIN, 50}, {MAX, 50}, {50, MIN}, {50, MAX}};
        for (int[] w : wrong) {
            KilnVillage x = village(1);
            x.kiln(2);
            x.shape(1, 77, 120);
            Checks.due("shape(1, " + w[0] + ", " + w[1] + ")", x.shape(1, w[0], w[1]), false);
            x.pot(0, 1, 0, 0);
            x.deal();
            x.image(0);
            x.fire(0, 2);
            Checks.due("TOUGH 120 holds a change by 120", x.about(0, 6), 0);
            Checks.due("open()", x.open(), 0);
            Checks.due("half of 77", x.tell(0, 0), 38);
            x.again(0);
            x.fire(0, 3);
            Checks.due("and not one by 180", x.about(0, 6), 1);
        }
    }

    /** "GLAZES 0 .. 3" */
    private static void glazesGoFrom0To3() {
        KilnVillage x = village(1);
        for (int glaze = 0; glaze <= 3; glaze++) {
            Checks.due("glaze(" + glaze + ", 5)", x.glaze(glaze, 5), true);
            Checks.due("pot", x.pot(0, 0, glaze, 0), glaze);
            Checks.due("about(.., 2)", x.about(glaze, 2), glaze);
        }
        for (int glaze : new int[] {-1, 4, MIN, MAX}) {
            Checks.due("glaze(" + glaze + ", 5)", x.glaze(glaze, 5), false);
            Checks.due("pot of it", x.pot(0, 0, glaze, 0), -1);
        }
    }

    /** "ASH parts, 0 .. 10": with none, one RIPE alone is right. FiringTest goes through all spans. */
    private static void ashGoesFrom0To10() {
        KilnVillage x = village(1);
        for (int glaze = 0; glaze <= 3; glaze++) {
            Checks.due("glaze(" + glaze + ", 0)", x.glaze(glaze, 0), true);
            Checks.due("glaze(" + glaze + ", 10)", x.glaze(glaze, 10), true);
            for (int ash : new int[] {-1, 11, MIN, MAX}) {
                Checks.due("glaze(" + glaze + ", " + ash + ")", x.glaze(glaze, ash), false);
            }
        }
    }

    /** A pot with RIPE 23 is in the span of ASH 10, from 20 up to 80, and in no other one. */
    private static void refusedGlazesStay() {
        for (int glaze = 0; glaze <= 3; glaze++) {
            for (int ash : new int[] {-1, 11, MIN, MAX}) {
                KilnVillage x = ripe23(glaze);
                x.glaze(glaze, 10);
                Checks.due("glaze(" + glaze + ", " + ash + ")", x.glaze(glaze, ash), false);
                Checks.due("glaze(4, 0)", x.glaze(4, 0), false);
                Checks.due("glaze(-1, 0)", x.glaze(-1, 0), false);
                Checks.due("open() with ASH 10", x.open(), 1);
                KilnVillage y = ripe23(glaze);
                y.glaze(glaze, 9);
                Checks.due("glaze(" + glaze + ", " + ash + ")", y.glaze(glaze, ash), false);
                Checks.due("open() with ASH 9", y.open(), 0);
            }
        }
    }

    private static KilnVillage ripe23(int glaze) {
        KilnVillage x = village(1);
        x.kiln(6);
        x.shape(0, 10, 999);
        x.value(1, 0, 99);
        x.pot(0, 0, glaze, 0);
        x.deal();
        for (int hour = 0; hour < 13; hour++) {
            x.fire(hour % 6, 9);
        }
        x.rest(60);
        x.rest(60);
        Checks.due("RIPE", x.about(0, 7), 23);
        return x;
    }

    /** "n 2 .. 6", "False: another number" */
    private static void chambersGoFrom2To6() {
        KilnVillage x = new KilnVillage();
        for (int chambers = 2; chambers <= 6; chambers++) {
            Checks.due("kiln(" + chambers + ")", x.kiln(chambers), true);
            for (int wrong : new int[] {1, 7, 0, -1, MIN, MAX}) {
                Checks.due("kiln(" + wrong + ")", x.kiln(wrong), false);
            }
            Checks.due("count(7)", x.count(7), chambers);
            Checks.due("count(8)", x.count(8), 20 * chambers);
            Checks.due("heat of the last", x.heat(chambers - 1), 20);
            Checks.due("heat behind the last", x.heat(chambers), -1);
            Checks.due("value of the last", x.value(chambers - 1, 3, 7), true);
            Checks.due("value behind the last", x.value(chambers, 0, 7), false);
            Checks.due("fire in the last", x.fire(chambers - 1, 0), 20);
            Checks.due("fire behind the last", x.fire(chambers, 0), -1);
        }
    }

    /** "(HEATS 20, VALUES as at first)": hot or cold, for the same number, too. */
    private static void kilnIsAsAtFirstAgain() {
        for (int chambers = 2; chambers <= 6; chambers++) {
            KilnVillage x = village(1);
            x.kiln(6);
            for (int place = 0; place < 24; place++) {
                x.value(place / 4, place % 4, 50);
            }
            for (int chamber = 0; chamber < 6; chamber++) {
                x.fire(chamber, 9);
            }
            Checks.due("kiln(2), hot", x.kiln(2), true);
            Checks.due("kiln(" + chambers + ")", x.kiln(chambers), true);
            for (int chamber = 0; chamber < chambers; chamber++) {
                Checks.due("heat(" + chamber + ")", x.heat(chamber), 20);
            }
            Checks.due("HOURS stay", x.count(3), 6);
            Checks.due("logs stay", x.count(4), 54);
            dealtOneByOne(x, chambers);
        }
    }

    /** HAD grows by VALUES: the greatest is 13, at CHAMBER 0, SPOT 3; then they fall. */
    private static void dealtOneByOne(KilnVillage x, int chambers) {
        int pots = 0;
        int had = x.tell(0, 1);
        for (int value = 13; value >= 1; value--) {
            for (int chamber = 0; chamber < chambers; chamber++) {
                int spot = value - 10 + chamber;
                if (spot >= 0 && spot <= 3) {
                    Checks.due("pot", x.pot(0, 0, 0, 0), pots);
                    Checks.due("deal()", x.deal(), 1);
                    Checks.due("at(" + chamber + ", " + spot + ")", x.at(chamber, spot), pots);
                    had += value;
                    Checks.due("HAD by VALUE " + value, x.tell(0, 1), had);
                    pots++;
                }
            }
        }
        Checks.due("all places were dealt", pots, 4 * chambers);
    }

    /** "or some POT stands": one, cracked or not, in any chamber; one that waits does not hinder. */
    private static void kilnStaysWhileAPotStands() {
        for (int chamber = 0; chamber < 3; chamber++) {
            KilnVillage x = village(1);
            x.pot(0, 0, 0, 9);
            Checks.due("kiln(3) while one waits", x.kiln(3), true);
            x.value(chamber, 0, 99);
            x.shape(0, 10, 89);
            x.deal();
            for (int cracked = 0; cracked < 2; cracked++) {
                Checks.due("CRACKED", x.about(0, 6), cracked);
                for (int chambers = 2; chambers <= 6; chambers++) {
                    Checks.due("kiln(" + chambers + ") while one stands", x.kiln(chambers), false);
                    Checks.due("count(7)", x.count(7), 3);
                }
                Checks.due("it stands", x.at(chamber, 0), 0);
                x.rest(1);
            }
            x.open();
            Checks.due("kiln(2) behind open()", x.kiln(2), true);
        }
    }

    /** "SPOTS 0 .. 3", "there is none such": no SPOT goes over into the next CHAMBER. */
    private static void spotsGoFrom0To3() {
        KilnVillage x = village(1);
        for (int chamber = 0; chamber < 3; chamber++) {
            for (int spot : new int[] {-1, 4, 5, -4, MIN, MAX}) {
                Checks.due("value(" + chamber + ", " + spot + ", 50)", x.value(chamber, spot, 50), false);
                Checks.due("at(" + chamber + ", " + spot + ")", x.at(chamber, spot), -1);
            }
        }
        for (int i = 0; i < 12; i++) {
            x.pot(0, 0, 0, 0);
        }
        Checks.due("deal()", x.deal(), 12);
        Checks.due("HAD", x.tell(0, 1), 4 * (10 + 9 + 8) + 3 * 6);
        for (int chamber = 0; chamber < 3; chamber++) {
            Checks.due("at spot 4 of a full kiln", x.at(chamber, 4), -1);
            Checks.due("at spot -1 of a full kiln", x.at(chamber, -1), -1);
        }
    }

    /** "it has a VALUE, 1 .. 99", "false: .. another VALUE" */
    private static void valuesGoFrom1To99() {
        for (int chambers = 2; chambers <= 6; chambers++) {
            for (int place = 0; place < 4 * chambers; place++) {
                KilnVillage x = village(1);
                x.kiln(chambers);
                for (int value : new int[] {0, 100, -1, MIN, MAX}) {
                    Checks.due("value " + value, x.value(place / 4, place % 4, value), false);
                }
                Checks.due("value 99", x.value(place / 4, place % 4, 99), true);
                x.pot(0, 0, 0, 0);
                x.deal();
                Checks.due("at it", x.at(place / 4, place % 4), 0);
                Checks.due("HAD", x.tell(0, 1), 99);
                x.open();
                Checks.due("value 1", x.value(place / 4, place % 4, 1), true);
                for (int i = 0; i < 4 * chambers - 1; i++) {
                    x.pot(0, 0, 0, 0);
                }
                x.deal();
                Checks.due("the least is free", x.at(place / 4, place % 4), -1);
                int had = x.tell(0, 1);
                x.pot(0, 0, 0, 0);
                x.deal();
                Checks.due("HAD by 1", x.tell(0, 1), had + 1);
            }
        }
    }

    /** "(at first 10, less CHAMBER; plus SPOT)": from 5 up to 13. */
    private static void valuesAreAsAtFirst() {
        dealtOneByOne(village(1), 3);
        for (int chambers = 2; chambers <= 6; chambers++) {
            KilnVillage x = village(1);
            x.kiln(chambers);
            dealtOneByOne(x, chambers);
        }
    }

    /** "A PLACE's VALUE from now on": what was had stays. */
    private static void valuesAreFromNowOn() {
        KilnVillage x = village(1);
        x.pot(0, 0, 0, 0);
        x.deal();
        Checks.due("value of a place that is taken", x.value(0, 3, 99), true);
        Checks.due("HAD stays", x.tell(0, 1), 13);
        x.open();
        x.pot(0, 0, 0, 0);
        x.deal();
        Checks.due("HAD by the new one", x.tell(0, 1), 13 + 99);
    }

    private static void refusedValuesStay() {
        for (int value : new int[] {0, 100, -1, MIN, MAX}) {
            KilnVillage x = village(1);
            x.value(2, 1, 60);
            Checks.due("value(2, 1, " + value + ")", x.value(2, 1, value), false);
            x.pot(0, 0, 0, 0);
            x.deal();
            Checks.due("at(2, 1)", x.at(2, 1), 0);
            Checks.due("HAD", x.tell(0, 1), 60);
        }
    }

    /** "POTS, at most 24", "NONE: there are 24": those that wait and those that stand together. */
    private static void potsGoUpTo24() {
        for (int standing = 0; standing <= 24; standing += 8) {
            KilnVillage x = village(2);
            x.kiln(6);
            for (int i = 0; i < 24; i++) {
                if (i == standing) {
                    Checks.due("deal()", x.deal(), standing);
                }
                Checks.due("pot " + i, x.pot(i % 2, i % 5, i % 4, i % 10), i);
                Checks.due("count(1)", x.count(1), i + 1);
            }
            Checks.due("a 25th", x.pot(0, 0, 0, 0), -1);
            Checks.due("count(1)", x.count(1), 24);
            Checks.due("about(24, 0)", x.about(24, 0), -1);
            Checks.due("about(23, 3)", x.about(23, 3), 3);
            x.deal();
            Checks.due("a 25th as all stand", x.pot(0, 0, 0, 0), -1);
            Checks.due("at the least place", x.at(5, 0) >= 0, true);
            x.open();
            Checks.due("count(1) behind open()", x.count(1), 0);
            Checks.due("pot from 0 on", x.pot(1, 4, 3, 9), 0);
        }
    }

    /** "are a HOUSE's, of a SHAPE, a GLAZE, WET, 0 .. 9": the least and the greatest of each. */
    private static void potsOfEachKind() {
        KilnVillage x = village(8);
        int pot = 0;
        for (int bits = 0; bits < 16; bits++) {
            int house = (bits & 1) * 7;
            int shape = (bits >> 1 & 1) * 4;
            int glaze = (bits >> 2 & 1) * 3;
            int wet = (bits >> 3 & 1) * 9;
            Checks.due("pot", x.pot(house, shape, glaze, wet), pot);
            int[] due = {house, shape, glaze, wet, -1, -1, 0, 0, 0};
            for (int what = 0; what < 9; what++) {
                Checks.due("about(" + pot + ", " + what + ")", x.about(pot, what), due[what]);
            }
            pot++;
        }
    }

    /** "or there is none such (HOUSE, SHAPE, GLAZE, WET)": nor did its house ever have one. */
    private static void refusedPotsAreNone() {
        int[][] wrong = {{-1, 0, 0, 0}, {2, 0, 0, 0}, {MIN, 0, 0, 0}, {MAX, 0, 0, 0}, {1, -1, 0, 0}, {1, 5, 0, 0},
            {1, MIN, 0, 0}, {1, MAX, 0, 0}, {1, 0, -1, 0}, {1, 0, 4, 0}, {1, 0, MIN, 0}, {1, 0, MAX, 0},
            {1, 0, 0, -1}, {1, 0, 0, 10}, {1, 0, 0, MIN}, {1, 0, 0, MAX}};
        for (int[] w : wrong) {
            KilnVillage x = village(2);
            x.pot(0, 0, 0, 0);
            x.deal();
            String call = "pot(" + w[0] + ", " + w[1] + ", " + w[2] + ", " + w[3] + ")";
            Checks.due(call, x.pot(w[0], w[1], w[2], w[3]), -1);
            Checks.due("count(1) behind " + call, x.count(1), 1);
            Checks.due("tell(1, 2) behind " + call, x.tell(1, 2), 0);
            Checks.due("spread() behind " + call, x.spread(), 0);
            Checks.due("the next pot", x.pot(1, 0, 0, 0), 1);
            Checks.due("spread()", x.spread(), 13);
        }
    }

    /** "each has so much, 1 .. 9, less WET", "false for another number" */
    private static void dryingGoesFrom1To9() {
        for (int n = 1; n <= 9; n++) {
            KilnVillage x = village(1);
            for (int wet = 0; wet <= 9; wet++) {
                x.pot(0, 0, 0, wet);
            }
            for (int wrong : new int[] {0, 10, -1, MIN, MAX}) {
                Checks.due("dry(" + wrong + ")", x.dry(wrong), false);
            }
            Checks.due("WET 9 still", x.about(9, 3), 9);
            Checks.due("dry(" + n + ")", x.dry(n), true);
            for (int wet = 0; wet <= 9; wet++) {
                Checks.due("WET " + wet + " less " + n, x.about(wet, 3), Math.max(0, wet - n));
            }
        }
    }

    /** "(0 at least)" */
    private static void wetIs0AtLeast() {
        KilnVillage x = village(1);
        x.pot(0, 0, 0, 0);
        x.pot(0, 0, 0, 1);
        for (int n = 1; n <= 9; n++) {
            Checks.due("dry(" + n + ")", x.dry(n), true);
            Checks.due("WET of one that is dry", x.about(0, 3), 0);
            Checks.due("WET of one that was wet", x.about(1, 3), 0);
        }
        Checks.due("dry(9) of no POTS", new KilnVillage().dry(9), true);
    }

    /** "POTS that wait dry" */
    private static void thoseThatStandDoNotDry() {
        KilnVillage x = village(1);
        x.pot(0, 0, 0, 9);
        x.deal();
        x.pot(0, 0, 0, 9);
        Checks.due("dry(9)", x.dry(9), true);
        Checks.due("one that stands", x.about(0, 3), 9);
        Checks.due("one that waits", x.about(1, 3), 0);
    }
}
