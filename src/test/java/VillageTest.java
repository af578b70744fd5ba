/** Promises 1, 6 to 12, 19, 20: houses, shapes, glazes, the kiln's places and the pots. */
public final class VillageTest {
    private static final int MIN = Integer.MIN_VALUE;
    private static final int MAX = Integer.MAX_VALUE;

    public static void main(String[] args) {
        newObject();
        housesAreAtMost8();
        shapesAndGlazesHaveBounds();
        kilnHasBounds();
        kilnIsBuiltAnew();
        kilnStaysWhilePotsStand();
        valuesHaveBounds();
        potsHaveBounds();
        potsAreAtMost24();
        potsDry();
        potsAreTold();
        placesAreTold();
        fullVillage();
        Checks.finish();
    }

    private static void newObject() {
        KilnVillage x = new KilnVillage();
        int[] counts = {0, 0, 0, 0, 0, 0, 0, 3, 60};
        for (int what = 0; what < counts.length; what++) {
            Checks.due("new count(" + what + ")", x.count(what), counts[what]);
        }
        for (int chamber = 0; chamber < 3; chamber++) {
            Checks.due("new heat", x.heat(chamber), 20);
            for (int spot = 0; spot < 4; spot++) {
                Checks.due("new at", x.at(chamber, spot), -1);
            }
        }
        for (int k = 0; k < 3; k++) {
            Checks.due("new again(" + k + ")", x.again(k), false);
        }
        Checks.due("new deal()", x.deal(), 0);
        Checks.due("new open()", x.open(), -1);
        Checks.due("new spread()", x.spread(), 0);
        Checks.due("new tell(0, 0)", x.tell(0, 0), -1000000000);
        Checks.due("new about(0, 0)", x.about(0, 0), -1);
        Checks.due("new end(1)", x.end(1), -1);
        Checks.due("new house()", x.house(), 0);
        int[] told = {0, 0, 0, 0, 0, 0, 0, 0};
        for (int what = 0; what < told.length; what++) {
            Checks.due("new tell(0, " + what + ")", x.tell(0, what), told[what]);
        }
    }

    private static void housesAreAtMost8() {
        KilnVillage x = new KilnVillage();
        for (int i = 0; i < 8; i++) {
            Checks.due("house()", x.house(), i);
            Checks.due("count(0)", x.count(0), i + 1);
        }
        Checks.due("9th house()", x.house(), -1);
        Checks.due("count(0)", x.count(0), 8);
        Checks.due("tell(7, 0)", x.tell(7, 0), 0);
        Checks.due("tell(8, 0)", x.tell(8, 0), -1000000000);
    }

    private static void shapesAndGlazesHaveBounds() {
        KilnVillage x = new KilnVillage();
        for (int shape = 0; shape < 5; shape++) {
            Checks.due("shape low", x.shape(shape, 1, 1), true);
            Checks.due("shape high", x.shape(shape, 999, 999), true);
        }
        int[][] wrong = {{-1, 1, 1}, {5, 1, 1}, {MIN, 1, 1}, {MAX, 1, 1}, {0, 0, 1}, {0, 1000, 1},
            {0, MIN, 1}, {0, MAX, 1}, {0, 1, 0}, {0, 1, 1000}, {0, 1, MIN}, {0, 1, MAX}};
        for (int[] w : wrong) {
            Checks.due("wrong shape " + w[0] + " " + w[1] + " " + w[2], x.shape(w[0], w[1], w[2]), false);
        }
        for (int glaze = 0; glaze < 4; glaze++) {
            Checks.due("glaze low", x.glaze(glaze, 0), true);
            Checks.due("glaze high", x.glaze(glaze, 10), true);
        }
        int[][] no = {{-1, 5}, {4, 5}, {MIN, 5}, {MAX, 5}, {0, -1}, {0, 11}, {0, MIN}, {0, MAX}};
        for (int[] w : no) {
            Checks.due("wrong glaze " + w[0] + " " + w[1], x.glaze(w[0], w[1]), false);
        }
        // A refused call changes nothing: worth 999 of a pot that did not ripen is halved.
        x.house();
        x.pot(0, 0, 0, 0);
        x.deal();
        x.shape(0, 500, 0);
        x.shape(0, 1000, 5);
        Checks.due("open()", x.open(), 0);
        Checks.due("tell(0, 0)", x.tell(0, 0), 499);
    }

    private static void kilnHasBounds() {
        KilnVillage x = new KilnVillage();
        for (int chambers = 2; chambers <= 6; chambers++) {
            Checks.due("kiln(" + chambers + ")", x.kiln(chambers), true);
            Checks.due("count(7)", x.count(7), chambers);
            Checks.due("count(8)", x.count(8), 20 * chambers);
            Checks.due("last heat", x.heat(chambers - 1), 20);
            Checks.due("heat behind the last", x.heat(chambers), -1);
            Checks.due("heat(-1)", x.heat(-1), -1);
            Checks.due("heat(MAX)", x.heat(MAX), -1);
            Checks.due("heat(MIN)", x.heat(MIN), -1);
            Checks.due("fire behind the last", x.fire(chambers, 0), -1);
            Checks.due("value behind the last", x.value(chambers, 0, 1), false);
        }
        for (int chambers : new int[] {1, 7, 0, -1, MIN, MAX}) {
            Checks.due("kiln(" + chambers + ")", x.kiln(chambers), false);
            Checks.due("count(7)", x.count(7), 6);
        }
    }

    private static void kilnIsBuiltAnew() {
        KilnVillage x = new KilnVillage();
        x.house();
        x.value(2, 0, 99);
        x.fire(1, 9);
        Checks.due("deal() while hot", x.deal(), -1);
        Checks.due("kiln(3)", x.kiln(3), true);
        Checks.due("count(8)", x.count(8), 60);
        Checks.due("count(3)", x.count(3), 1);
        Checks.due("count(4)", x.count(4), 9);
        x.pot(0, 0, 0, 0);
        Checks.due("deal()", x.deal(), 1);
        Checks.due("at(2, 0)", x.at(2, 0), -1);
        Checks.due("at(0, 3)", x.at(0, 3), 0);
        Checks.due("tell(0, 1)", x.tell(0, 1), 13);
    }

    private static void kilnStaysWhilePotsStand() {
        KilnVillage x = new KilnVillage();
        x.house();
        x.pot(0, 0, 0, 0);
        Checks.due("kiln(4) while one waits", x.kiln(4), true);
        x.deal();
        Checks.due("kiln(4) while one stands", x.kiln(4), false);
        Checks.due("kiln(2) while one stands", x.kiln(2), false);
        Checks.due("count(7)", x.count(7), 4);
        x.open();
        Checks.due("kiln(2)", x.kiln(2), true);
    }

    private static void valuesHaveBounds() {
        KilnVillage x = new KilnVillage();
        Checks.due("value low", x.value(0, 0, 1), true);
        Checks.due("value high", x.value(2, 3, 99), true);
        int[][] wrong = {{-1, 0, 1}, {3, 0, 1}, {0, -1, 1}, {0, 4, 1}, {0, 0, 0}, {0, 0, 100},
            {MIN, 0, 1}, {MAX, 0, 1}, {0, MIN, 1}, {0, MAX, 1}, {0, 0, MIN}, {0, 0, MAX}};
        for (int[] w : wrong) {
            Checks.due("wrong value " + w[0] + " " + w[1] + " " + w[2], x.value(w[0], w[1], w[2]), false);
        }
        x.house();
        x.pot(0, 0, 0, 0);
        x.deal();
        Checks.due("at(2, 3)", x.at(2, 3), 0);
        Checks.due("tell(0, 1)", x.tell(0, 1), 99);
    }

    private static void potsHaveBounds() {
        KilnVillage x = new KilnVillage();
        Checks.due("pot without house", x.pot(0, 0, 0, 0), -1);
        x.house();
        x.house();
        Checks.due("pot low", x.pot(0, 0, 0, 0), 0);
        Checks.due("pot high", x.pot(1, 4, 3, 9), 1);
        int[][] wrong = {{-1, 0, 0, 0}, {2, 0, 0, 0}, {0, -1, 0, 0}, {0, 5, 0, 0}, {0, 0, -1, 0},
            {0, 0, 4, 0}, {0, 0, 0, -1}, {0, 0, 0, 10}, {MIN, 0, 0, 0}, {MAX, 0, 0, 0},
            {0, MIN, 0, 0}, {0, MAX, 0, 0}, {0, 0, MIN, 0}, {0, 0, MAX, 0}, {0, 0, 0, MIN},
            {0, 0, 0, MAX}};
        for (int[] w : wrong) {
            Checks.due("wrong pot", x.pot(w[0], w[1], w[2], w[3]), -1);
        }
        Checks.due("count(1)", x.count(1), 2);
    }

    private static void potsAreAtMost24() {
        KilnVillage x = new KilnVillage();
        x.house();
        for (int i = 0; i < 24; i++) {
            Checks.due("pot", x.pot(0, i % 5, i % 4, i % 10), i);
        }
        Checks.due("25th pot", x.pot(0, 0, 0, 0), -1);
        Checks.due("deal() of 12 places", x.deal(), 12);
        Checks.due("25th pot", x.pot(0, 0, 0, 0), -1);
        Checks.due("open()", x.open(), 0);
        Checks.due("count(1)", x.count(1), 12);
        for (int i = 12; i < 24; i++) {
            Checks.due("renumbered wet", x.about(i - 12, 3), i % 10);
            Checks.due("renumbered shape", x.about(i - 12, 1), i % 5);
            Checks.due("renumbered glaze", x.about(i - 12, 2), i % 4);
            Checks.due("pot", x.pot(0, 0, 0, 0), i);
        }
        Checks.due("25th pot", x.pot(0, 0, 0, 0), -1);
        Checks.due("a pot of the second dozen is new", x.about(23, 3), 0);
    }

    private static void potsDry() {
        KilnVillage x = new KilnVillage();
        x.house();
        x.kiln(2);
        for (int i = 0; i < 8; i++) {
            x.pot(0, 0, 0, 9);
        }
        x.deal();
        x.pot(0, 0, 0, 9);
        x.pot(0, 0, 0, 2);
        for (int n : new int[] {0, -1, 10, MIN, MAX}) {
            Checks.due("dry(" + n + ")", x.dry(n), false);
        }
        Checks.due("about(8, 3)", x.about(8, 3), 9);
        Checks.due("dry(1)", x.dry(1), true);
        Checks.due("about(8, 3)", x.about(8, 3), 8);
        Checks.due("about(9, 3)", x.about(9, 3), 1);
        Checks.due("dry(3)", x.dry(3), true);
        Checks.due("about(8, 3)", x.about(8, 3), 5);
        Checks.due("about(9, 3)", x.about(9, 3), 0);
        Checks.due("dry(9)", x.dry(9), true);
        Checks.due("about(8, 3)", x.about(8, 3), 0);
        Checks.due("one that stands", x.about(0, 3), 9);
        x.open();
        x.pot(0, 0, 0, 6);
        Checks.due("about(2, 3)", x.about(2, 3), 6);
        KilnVillage y = new KilnVillage();
        y.house();
        y.pot(0, 0, 0, 9);
        Checks.due("dry(4)", y.dry(4), true);
        Checks.due("the first one", y.about(0, 3), 5);
    }

    private static void potsAreTold() {
        KilnVillage x = new KilnVillage();
        x.house();
        x.house();
        x.pot(1, 4, 3, 7);
        Checks.takes(x, "part 55;", 1);
        int[] waiting = {1, 4, 3, 7, -1, -1, 0, 0, 55};
        for (int what = 0; what < waiting.length; what++) {
            Checks.due("about(0, " + what + ")", x.about(0, what), waiting[what]);
        }
        x.value(2, 1, 50);
        x.deal();
        Checks.due("CHAMBER", x.about(0, 4), 2);
        Checks.due("SPOT", x.about(0, 5), 1);
        for (int what : new int[] {-1, 9, MIN, MAX}) {
            Checks.due("about(0, " + what + ")", x.about(0, what), -1);
        }
        for (int pot : new int[] {-1, 1, 24, MIN, MAX}) {
            Checks.due("about(" + pot + ", 0)", x.about(pot, 0), -1);
            Checks.due("about(" + pot + ", 8)", x.about(pot, 8), -1);
        }
    }

    private static void placesAreTold() {
        KilnVillage x = new KilnVillage();
        x.house();
        x.pot(0, 0, 0, 0);
        x.deal();
        Checks.due("at(0, 3)", x.at(0, 3), 0);
        int[][] none = {{0, 2}, {-1, 0}, {3, 0}, {0, -1}, {0, 4}, {1, -1}, {MIN, 0}, {MAX, 0},
            {0, MIN}, {0, MAX}};
        for (int[] p : none) {
            Checks.due("at(" + p[0] + ", " + p[1] + ")", x.at(p[0], p[1]), -1);
        }
        x.open();
        Checks.due("at(0, 3) when opened", x.at(0, 3), -1);
    }

    /** All that there can be at most of, at once. */
    private static void fullVillage() {
        KilnVillage x = new KilnVillage();
        x.kiln(6);
        for (int house = 0; house < 8; house++) {
            x.house();
            for (int i = 0; i < 3; i++) {
                Checks.due("pot", x.pot(house, 0, 0, 9), 3 * house + i);
            }
            for (int i = 0; i < 8; i++) {
                Checks.due("order", x.order(house, 1, 8 - i, 9), i);
            }
        }
        x.shape(0, 800, 90);
        Checks.takes(x, "if wet=1:bear;".repeat(11) + "if wet=8 and ripe=0 and shape=0 and glaze=0:part 50;", 12);
        Checks.due("dry(1)", x.dry(1), true);
        Checks.due("about(23, 3)", x.about(23, 3), 8);
        Checks.due("about(23, 8)", x.about(23, 8), 50);
        Checks.due("image(2)", x.image(2), true);
        Checks.due("deal()", x.deal(), 24);
        Checks.due("count(2)", x.count(2), 24);
        Checks.due("spread()", x.spread() >= 0, true);
        Checks.due("fire(5, 9)", x.fire(5, 9), 560);
        Checks.due("cracked in the last chamber", x.about(x.at(5, 0), 6), 1);
        Checks.due("whole in the first", x.about(x.at(0, 0), 6), 0);
        Checks.due("rest(60)", x.rest(60) < 200, true);
        Checks.due("open()", x.open(), 0);
        int silver = 0;
        for (int house = 0; house < 8; house++) {
            silver += x.tell(house, 0);
            Checks.due("BEST's worth", x.tell(house, 5), 72);
            Checks.due("BEST's bits", x.tell(house, 6), 255);
            Checks.due("POTS", x.tell(house, 2), 0);
        }
        Checks.due("what is shared stays in the village", silver % 400, 0);
        Checks.due("again(2)", x.again(2), true);
        Checks.due("count(1)", x.count(1), 24);
        Checks.due("at(5, 3)", x.at(5, 3), -1);
    }
}
