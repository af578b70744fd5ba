/** Promises 26 and 27: their boundary cases, one by one. */
public final class ImagesEdgesTest {
    private static final int MIN = Integer.MIN_VALUE;
    private static final int MAX = Integer.MAX_VALUE;

    public static void main(String[] args) {
        imagesGoFrom0To2();
        againOfNone();
        againOfOthers();
        refusedImageLeavesImages();
        imageOfEachVillageComesAgain();
        imageIsAsItWasThen();
        imageIsMadeAnew();
        otherImagesStay();
        imagesAreNoPartOfImages();
        Checks.finish();
    }

    /** "Image k (0 .. 2)", "false for another k" */
    private static void imagesGoFrom0To2() {
        for (Samples.Sample sample : Samples.ALL) {
            KilnVillage x = sample.made().get();
            for (int k : new int[] {-1, 3, MIN, MAX}) {
                Checks.due("image(" + k + ")", x.image(k), false);
            }
            for (int k = 0; k <= 2; k++) {
                Checks.due("image(" + k + ")", x.image(k), true);
            }
        }
    }

    /** "false if there is none such": until it has been made. */
    private static void againOfNone() {
        for (int made = 0; made < 3; made++) {
            KilnVillage x = new KilnVillage();
            for (int k = 0; k < 3; k++) {
                Checks.due("again(" + k + ") of none", x.again(k), false);
            }
            x.image(made);
            for (int k = 0; k < 3; k++) {
                Checks.due("again(" + k + ") as " + made + " is made", x.again(k), k == made);
            }
        }
    }

    private static void againOfOthers() {
        KilnVillage x = new KilnVillage();
        for (int k = 0; k < 3; k++) {
            x.image(k);
        }
        x.house();
        for (int k : new int[] {-1, 3, MIN, MAX}) {
            Checks.due("again(" + k + ")", x.again(k), false);
            Checks.due("count(0)", x.count(0), 1);
        }
    }

    private static void refusedImageLeavesImages() {
        KilnVillage x = new KilnVillage();
        for (int k = 0; k < 3; k++) {
            x.house();
            x.image(k);
        }
        x.house();
        for (int k : new int[] {-1, 3, MIN, MAX}) {
            Checks.due("image(" + k + ")", x.image(k), false);
        }
        for (int k = 0; k < 3; k++) {
            Checks.due("again(" + k + ")", x.again(k), true);
            Checks.due("count(0) of " + k, x.count(0), k + 1);
        }
    }

    /** "All that is as image k has it": the empty, the busy and the full one, over another one. */
    private static void imageOfEachVillageComesAgain() {
        for (Samples.Sample sample : Samples.ALL) {
            for (int k = 0; k < 3; k++) {
                String name = sample.name() + " again from " + k;
                Told.plainly(wreckedAndAgain(sample, k)).mustBe(name, Told.plainly(sample.made().get()));
                Told want = Told.byWhatComes(sample.made().get());
                Told.byWhatComes(wreckedAndAgain(sample, k)).mustBe(name, want);
            }
        }
    }

    private static KilnVillage wreckedAndAgain(Samples.Sample sample, int k) {
        KilnVillage x = sample.made().get();
        Checks.due("image(" + k + ")", x.image(k), true);
        wreck(x);
        Checks.due("again(" + k + ")", x.again(k), true);
        return x;
    }

    /** Changes something of all that can be changed. */
    private static void wreck(KilnVillage x) {
        x.custom();
        Checks.takes(x, "part 33;", 1);
        Checks.refuses(x, "part 33;part 101;", 2, 13);
        x.rest(60);
        x.open();
        x.kiln(5);
        x.house();
        for (int shape = 0; shape < 5; shape++) {
            x.shape(shape, 500 + shape, 500 + shape);
        }
        for (int glaze = 0; glaze < 4; glaze++) {
            x.glaze(glaze, 9);
        }
        x.value(4, 0, 98);
        x.pot(0, 4, 3, 8);
        x.pot(0, 3, 2, 7);
        x.deal();
        x.pot(0, 2, 1, 6);
        x.dry(1);
        x.fire(4, 9);
        x.forget(0);
        x.order(0, 29, 199, 998);
        Checks.feedText(x, "part 34;part 35;");
    }

    /** "as it is now": what comes behind it is no part of it, once and twice. */
    private static void imageIsAsItWasThen() {
        Samples.Sample sample = Samples.BUSY;
        KilnVillage x = sample.made().get();
        x.image(1);
        for (int time = 0; time < 2; time++) {
            wreck(x);
            Checks.due("again(1)", x.again(1), true);
        }
        Told.plainly(x).mustBe("again twice", Told.plainly(sample.made().get()));
    }

    /** An image that was is gone: the full one, by an empty one, and the other way. */
    private static void imageIsMadeAnew() {
        KilnVillage x = new KilnVillage();
        x.image(0);
        for (int house = 0; house < 8; house++) {
            x.house();
            x.pot(house, 1, 1, 1);
        }
        x.image(1);
        x.image(0);
        x.again(0);
        Checks.due("HOUSES", x.count(0), 8);
        Checks.due("POTS", x.count(1), 8);
        KilnVillage y = Samples.FULL.made().get();
        y.image(0);
        y.deal();
        y.open();
        y.image(0);
        y.again(1);
        Checks.due("POTS of 1", y.count(1), 24);
        y.again(0);
        Checks.due("POTS of 0", y.count(1), 0);
        Checks.due("firings of 0", y.count(5), 1);
    }

    /** "(other images stay)" */
    private static void otherImagesStay() {
        KilnVillage x = new KilnVillage();
        for (int k = 0; k < 3; k++) {
            x.house();
            x.image(k);
        }
        for (int from = 0; from < 3; from++) {
            for (int k = 0; k < 3; k++) {
                Checks.due("again(" + from + ")", x.again(from), true);
                x.house();
                Checks.due("count(0) on from " + from, x.count(0), from + 2);
                Checks.due("again(" + k + ")", x.again(k), true);
                Checks.due("count(0) of " + k, x.count(0), k + 1);
            }
        }
        Checks.due("image(1) anew", x.image(1), true);
        x.again(0);
        Checks.due("count(0) of 0", x.count(0), 1);
        x.again(1);
        Checks.due("count(0) of 1", x.count(0), 3);
    }

    /** An image that was made behind another stays when that one comes again. */
    private static void imagesAreNoPartOfImages() {
        KilnVillage x = new KilnVillage();
        x.image(0);
        x.house();
        x.image(1);
        x.again(0);
        Checks.due("count(0) of 0", x.count(0), 0);
        Checks.due("again(1)", x.again(1), true);
        Checks.due("count(0) of 1", x.count(0), 1);
        Checks.due("again(2)", x.again(2), false);
        Checks.due("count(0) still", x.count(0), 1);
    }
}
