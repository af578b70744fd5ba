/** Promises 25 to 27: counts and images. */
public final class ImagesTest {
    public static void main(String[] args) {
        countsAreTold();
        imagesHaveBounds();
        imagesAreApart();
        allComesAgain();
        tapeAndCustomComeAgain();
        shapesAndGlazesComeAgain();
        potsAndHousesComeAgain();
        Checks.finish();
    }

    private static void countsAreTold() {
        KilnVillage x = village();
        int[] counts = {2, 4, 3, 4, 6, 1, 2, 4};
        for (int what = 0; what < counts.length; what++) {
            Checks.due("count(" + what + ")", x.count(what), counts[what]);
        }
        int sum = x.heat(0) + x.heat(1) + x.heat(2) + x.heat(3);
        Checks.due("count(8)", x.count(8), sum);
        for (int what : new int[] {-1, 9, Integer.MIN_VALUE, Integer.MAX_VALUE}) {
            Checks.due("count(" + what + ")", x.count(what), -1);
        }
    }

    private static void imagesHaveBounds() {
        KilnVillage x = new KilnVillage();
        for (int k : new int[] {-1, 3, Integer.MIN_VALUE, Integer.MAX_VALUE}) {
            Checks.due("image(" + k + ")", x.image(k), false);
            Checks.due("again(" + k + ")", x.again(k), false);
        }
        for (int k = 0; k < 3; k++) {
            Checks.due("again(" + k + ")", x.again(k), false);
            Checks.due("image(" + k + ")", x.image(k), true);
            Checks.due("again(" + k + ")", x.again(k), true);
        }
    }

    private static void imagesAreApart() {
        KilnVillage x = new KilnVillage();
        x.image(2);
        x.house();
        x.image(0);
        x.house();
        x.image(1);
        x.house();
        x.again(0);
        Checks.due("count(0) of 0", x.count(0), 1);
        x.again(1);
        Checks.due("count(0) of 1", x.count(0), 2);
        x.again(2);
        Checks.due("count(0) of 2", x.count(0), 0);
        x.again(1);
        x.house();
        Checks.due("count(0) on from 1", x.count(0), 3);
        x.again(1);
        Checks.due("count(0) of 1, still", x.count(0), 2);
        x.image(0);
        x.again(0);
        Checks.due("count(0) of 0 made anew", x.count(0), 2);
    }

    /** With something of everything: a fault and a tape, too. */
    private static KilnVillage village() {
        KilnVillage x = new KilnVillage();
        x.house();
        x.house();
        x.kiln(4);
        x.shape(0, 100, 50);
        x.glaze(0, 7);
        x.value(3, 3, 50);
        Checks.takes(x, "if chamber=3:part 40;part 60;", 2);
        x.pot(0, 0, 0, 1);
        x.deal();
        x.fire(3, 1);
        x.rest(1);
        x.open();
        x.rest(1);
        x.kiln(4);
        x.value(3, 3, 50);
        x.pot(0, 0, 0, 1);
        x.pot(1, 1, 1, 2);
        x.pot(1, 2, 2, 3);
        x.deal();
        x.pot(1, 3, 3, 4);
        x.fire(3, 5);
        x.order(0, 3, 4, 10);
        x.order(0, 2, 3, 9);
        Checks.refuses(x, "bear;x", 1, 5);
        x.feed(1, 2, 3, 4, 5);
        return x;
    }

    private static void change(KilnVillage x) {
        x.custom();
        Checks.takes(x, "if wet=1:bear;bear;part 1;", 3);
        x.house();
        x.shape(0, 1, 999);
        x.glaze(0, 1);
        x.dry(9);
        x.rest(60);
        x.open();
        x.kiln(2);
        x.value(0, 0, 77);
        x.pot(2, 4, 3, 9);
        x.deal();
        x.fire(0, 9);
        x.forget(0);
        x.order(0, 1, 1, 1);
        x.order(1, 1, 1, 1);
        x.feed(0, 0, 0, 0, 0);
        x.feed(0, 0, 0, 0, 0);
    }

    private static KilnVillage villageAgain() {
        KilnVillage x = village();
        Checks.due("image(1)", x.image(1), true);
        change(x);
        Checks.due("again(1)", x.again(1), true);
        return x;
    }

    private static void allComesAgain() {
        compare(villageAgain(), village());
        // What is not asked for directly shows in what comes of it.
        KilnVillage x = villageAgain();
        KilnVillage same = village();
        Checks.due("feed", x.feed(0, 0, 0, 0, 0), same.feed(0, 0, 0, 0, 0));
        Checks.due("custom()", x.custom(), same.custom());
        for (int i = 0; i < 3; i++) {
            Checks.due("rest(20)", x.rest(20), same.rest(20));
        }
        Checks.due("deal()", x.deal(), same.deal());
        Checks.due("open()", x.open(), same.open());
        Checks.due("order", x.order(0, 1, 1, 1), same.order(0, 1, 1, 1));
        for (int i = 0; i < 16; i++) {
            Checks.due("pot", x.pot(1, i % 5, 0, 0), same.pot(1, i % 5, 0, 0));
        }
        Checks.due("deal()", x.deal(), same.deal());
        compare(x, same);
        KilnVillage twice = villageAgain();
        change(twice);
        Checks.due("again(1)", twice.again(1), true);
        compare(twice, village());
    }

    private static void tapeAndCustomComeAgain() {
        KilnVillage x = new KilnVillage();
        x.house();
        x.pot(0, 0, 0, 9);
        Checks.takes(x, "if shape=1:bear;".repeat(11) + "if wet>8 and not wet<9 and not wet=8 and spot=0:part 12;", 12);
        Checks.feedText(x, "bear;bear;bear;");
        x.image(0);
        Checks.due("end(0)", x.end(0), 0);
        Checks.takes(x, "if ripe=1 and ripe=1 and ripe=1 and ripe=1:part 1;".repeat(5), 5);
        Checks.takes(x, "if ripe=999:part 1;".repeat(12), 12);
        Checks.feedText(x, "part 1;xxxxxxxx");
        x.again(0);
        Checks.due("about(0, 8)", x.about(0, 8), 12);
        Checks.due("end(16)", x.end(16), -1);
        Checks.due("custom()", x.custom(), 3);
    }

    private static void shapesAndGlazesComeAgain() {
        KilnVillage x = new KilnVillage();
        x.house();
        x.pot(0, 4, 3, 0);
        x.shape(4, 30, 60);
        x.glaze(3, 10);
        x.deal();
        x.image(2);
        x.shape(4, 50, 59);
        x.again(2);
        x.fire(0, 1);
        Checks.due("TOUGH 60 again", x.about(0, 6), 0);
        x.again(2);
        x.shape(4, 50, 120);
        x.again(2);
        x.fire(0, 2);
        Checks.due("TOUGH 60 again, not 120", x.about(0, 6), 1);
        x.again(2);
        x.shape(4, 30, 999);
        for (int i = 0; i < 4; i++) {
            x.fire(0, 9);
        }
        x.rest(60);
        int ripe = x.about(0, 7);
        Checks.due("RIPE " + ripe + ", from 20 on, up to 80", ripe >= 20 && ripe <= 80, true);
        x.image(2);
        x.glaze(3, 0);
        x.shape(4, 80, 1);
        x.again(2);
        Checks.due("open()", x.open(), 1);
        Checks.due("SILVER", x.tell(0, 0), 30);
    }

    private static void potsAndHousesComeAgain() {
        KilnVillage x = new KilnVillage();
        x.house();
        x.house();
        x.pot(0, 0, 0, 0);
        x.deal();
        x.image(0);
        Checks.due("spread()", x.spread(), 0);
        x.pot(1, 0, 0, 0);
        Checks.due("spread()", x.spread(), 13);
        x.image(1);
        x.again(0);
        Checks.due("spread() as no pot was of house 1", x.spread(), 0);
        x.again(1);
        Checks.due("spread() as one was", x.spread(), 13);
        x.shape(0, 10, 999);
        for (int i = 0; i < 4; i++) {
            x.fire(0, 9);
        }
        int ripe = x.about(0, 7);
        Checks.due("RIPE", ripe > 0, true);
        x.image(0);
        x.fire(0, 9);
        x.again(0);
        Checks.due("RIPE again", x.about(0, 7), ripe);
        x.again(1);
        Checks.due("not RIPE again", x.about(0, 7), 0);
    }

    private static void compare(KilnVillage x, KilnVillage same) {
        for (int what = 0; what < 9; what++) {
            Checks.due("count(" + what + ")", x.count(what), same.count(what));
            for (int pot = 0; pot < 24; pot++) {
                Checks.due("about(" + pot + ", " + what + ")", x.about(pot, what), same.about(pot, what));
            }
            for (int house = 0; house < 3; house++) {
                Checks.due("tell(" + house + ", " + what + ")", x.tell(house, what), same.tell(house, what));
            }
        }
        for (int chamber = 0; chamber < 6; chamber++) {
            Checks.due("heat(" + chamber + ")", x.heat(chamber), same.heat(chamber));
            for (int spot = 0; spot < 4; spot++) {
                Checks.due("at(" + chamber + ", " + spot + ")", x.at(chamber, spot), same.at(chamber, spot));
            }
        }
        for (int bits = 0; bits < 8; bits++) {
            Checks.due("inTime(0, " + bits + ")", x.inTime(0, bits), same.inTime(0, bits));
        }
        Checks.due("fault(0)", x.fault(0), same.fault(0));
        Checks.due("fault(1)", x.fault(1), same.fault(1));
        Checks.due("spread()", x.spread(), same.spread());
    }
}
