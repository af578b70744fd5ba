import java.util.function.Predicate;
import java.util.function.ToIntFunction;

/**
 * All promises: each call that is refused, in an empty, a busy and a full village, with the number
 * just outside at both ends and the least and the greatest int; and that it leaves all as it was.
 */
public final class RefusalsTest {
    private static final int NOTHING = -1000000000;

    private final Samples.Sample sample;

    private RefusalsTest(Samples.Sample sample) {
        this.sample = sample;
    }

    public static void main(String[] args) {
        for (Samples.Sample sample : Samples.ALL) {
            new RefusalsTest(sample).run();
        }
        hotKilnIsNotDealt();
        kilnWithoutPotsIsNotOpened();
        hotKilnIsNotOpened();
        fullVillageTakesNoMore();
        tapeTakesNoMoreBehind280();
        imagesThatAreNotThere();
        faultLeavesAllButTheTape();
        Checks.finish();
    }

    private void run() {
        wrongEnds();
        wrongQuestions();
        wrongShapesAndGlazes();
        wrongKilns();
        wrongValues();
        wrongPots();
        wrongDrying();
        wrongHours();
        wrongOrders();
        wrongImages();
        manyWrongAtOnce();
    }

    private static int[] outside(int least, int most) {
        return new int[] {least - 1, most + 1, Integer.MIN_VALUE, Integer.MAX_VALUE};
    }

    private void none(String call, ToIntFunction<KilnVillage> refused) {
        refuses(call, refused, -1);
    }

    private void no(String call, Predicate<KilnVillage> refused) {
        refuses(call, x -> refused.test(x) ? 1 : 0, 0);
    }

    /** Of two villages made alike one is called: they must be alike still. */
    private void refuses(String call, ToIntFunction<KilnVillage> refused, int answer) {
        String name = sample.name() + ", behind " + call;
        KilnVillage x = sample.made().get();
        Checks.due(sample.name() + ", " + call, refused.applyAsInt(x), answer);
        Told.plainly(x).mustBe(name, Told.plainly(sample.made().get()));
        KilnVillage y = sample.made().get();
        refused.applyAsInt(y);
        Told.byWhatComes(y).mustBe(name, Told.byWhatComes(sample.made().get()));
        KilnVillage z = sample.made().get();
        refused.applyAsInt(z);
        Told.ofImages(z).mustBe(name, Told.ofImages(sample.made().get()));
    }

    private void wrongEnds() {
        for (int n : outside(0, sample.tape())) {
            none("end(" + n + ")", x -> x.end(n));
        }
    }

    private void wrongQuestions() {
        for (int what : outside(0, 1)) {
            none("fault(" + what + ")", x -> x.fault(what));
        }
        for (int what : outside(0, 8)) {
            none("count(" + what + ")", x -> x.count(what));
            none("about(0, " + what + ")", x -> x.about(0, what));
        }
        for (int pot : outside(0, sample.pots() - 1)) {
            none("about(" + pot + ", 0)", x -> x.about(pot, 0));
            none("about(" + pot + ", 8)", x -> x.about(pot, 8));
        }
        for (int what : outside(0, 7)) {
            refuses("tell(0, " + what + ")", x -> x.tell(0, what), NOTHING);
        }
        for (int house : outside(0, sample.houses() - 1)) {
            refuses("tell(" + house + ", 0)", x -> x.tell(house, 0), NOTHING);
            refuses("tell(" + house + ", 7)", x -> x.tell(house, 7), NOTHING);
        }
        for (int chamber : outside(0, sample.chambers() - 1)) {
            none("heat(" + chamber + ")", x -> x.heat(chamber));
            none("at(" + chamber + ", 3)", x -> x.at(chamber, 3));
        }
        for (int spot : outside(0, 3)) {
            none("at(0, " + spot + ")", x -> x.at(0, spot));
            none("at(1, " + spot + ")", x -> x.at(1, spot));
        }
    }

    private void wrongShapesAndGlazes() {
        for (int shape : outside(0, 4)) {
            no("shape(" + shape + ", 30, 30)", x -> x.shape(shape, 30, 30));
        }
        for (int worth : outside(1, 999)) {
            no("shape(0, " + worth + ", 30)", x -> x.shape(0, worth, 30));
        }
        for (int tough : outside(1, 999)) {
            no("shape(4, 30, " + tough + ")", x -> x.shape(4, 30, tough));
        }
        for (int glaze : outside(0, 3)) {
            no("glaze(" + glaze + ", 3)", x -> x.glaze(glaze, 3));
        }
        for (int ash : outside(0, 10)) {
            no("glaze(0, " + ash + ")", x -> x.glaze(0, ash));
            no("glaze(3, " + ash + ")", x -> x.glaze(3, ash));
        }
    }

    private void wrongKilns() {
        for (int chambers : outside(2, 6)) {
            no("kiln(" + chambers + ")", x -> x.kiln(chambers));
        }
        no("kiln(0)", x -> x.kiln(0));
        no("kiln(-1)", x -> x.kiln(-1));
        if (sample != Samples.EMPTY) {
            for (int chambers = 2; chambers <= 6; chambers++) {
                int some = chambers;
                no("kiln(" + some + ") while pots stand", x -> x.kiln(some));
            }
        }
    }

    private void wrongValues() {
        for (int chamber : outside(0, sample.chambers() - 1)) {
            no("value(" + chamber + ", 0, 80)", x -> x.value(chamber, 0, 80));
        }
        for (int spot : outside(0, 3)) {
            no("value(0, " + spot + ", 80)", x -> x.value(0, spot, 80));
            no("value(1, " + spot + ", 80)", x -> x.value(1, spot, 80));
        }
        for (int value : outside(1, 99)) {
            no("value(0, 3, " + value + ")", x -> x.value(0, 3, value));
        }
    }

    private void wrongPots() {
        for (int house : outside(0, sample.houses() - 1)) {
            none("pot(" + house + ", 0, 0, 0)", x -> x.pot(house, 0, 0, 0));
        }
        int last = sample.houses() - 1;
        for (int shape : outside(0, 4)) {
            none("pot(" + last + ", " + shape + ", 0, 0)", x -> x.pot(last, shape, 0, 0));
        }
        for (int glaze : outside(0, 3)) {
            none("pot(" + last + ", 0, " + glaze + ", 0)", x -> x.pot(last, 0, glaze, 0));
        }
        for (int wet : outside(0, 9)) {
            none("pot(" + last + ", 0, 0, " + wet + ")", x -> x.pot(last, 0, 0, wet));
        }
    }

    private void wrongDrying() {
        for (int n : outside(1, 9)) {
            no("dry(" + n + ")", x -> x.dry(n));
        }
        no("dry(-1)", x -> x.dry(-1));
    }

    private void wrongHours() {
        for (int chamber : outside(0, sample.chambers() - 1)) {
            none("fire(" + chamber + ", 5)", x -> x.fire(chamber, 5));
        }
        for (int logs : outside(0, 9)) {
            none("fire(0, " + logs + ")", x -> x.fire(0, logs));
        }
        for (int hours : outside(1, 60)) {
            none("rest(" + hours + ")", x -> x.rest(hours));
        }
        none("rest(-1)", x -> x.rest(-1));
    }

    private void wrongOrders() {
        for (int house : outside(0, sample.houses() - 1)) {
            none("order(" + house + ", 1, 9, 9)", x -> x.order(house, 1, 9, 9));
            no("forget(" + house + ")", x -> x.forget(house));
            no("inTime(" + house + ", 0)", x -> x.inTime(house, 0));
        }
        for (int days : outside(1, 30)) {
            none("order(0, " + days + ", 99, 9)", x -> x.order(0, days, 99, 9));
        }
        for (int due : outside(1, 200)) {
            none("order(0, 1, " + due + ", 9)", x -> x.order(0, 1, due, 9));
        }
        for (int worth : outside(1, 999)) {
            none("order(0, 1, 9, " + worth + ")", x -> x.order(0, 1, 9, worth));
        }
        for (int bits : outside(0, (1 << sample.orders()) - 1)) {
            no("inTime(0, " + bits + ")", x -> x.inTime(0, bits));
        }
    }

    private void wrongImages() {
        for (int k : outside(0, 2)) {
            no("image(" + k + ")", x -> x.image(k));
            no("again(" + k + ")", x -> x.again(k));
        }
    }

    /** No sum or product of such numbers comes out as one that is right. */
    private void manyWrongAtOnce() {
        int[] wrong = {-1, Integer.MIN_VALUE, Integer.MAX_VALUE};
        for (int a : wrong) {
            for (int b : wrong) {
                String two = "(" + a + ", " + b + ")";
                no("glaze" + two, x -> x.glaze(a, b));
                none("fire" + two, x -> x.fire(a, b));
                none("about" + two, x -> x.about(a, b));
                none("at" + two, x -> x.at(a, b));
                refuses("tell" + two, x -> x.tell(a, b), NOTHING);
                no("inTime" + two, x -> x.inTime(a, b));
                for (int c : wrong) {
                    String more = "(" + a + ", " + b + ", " + c + ", ..)";
                    no("shape" + more, x -> x.shape(a, b, c));
                    no("value" + more, x -> x.value(a, b, c));
                    none("pot" + more, x -> x.pot(a, b, c, a));
                    none("order" + more, x -> x.order(a, b, c, b));
                }
            }
        }
    }

    private static void hotKilnIsNotDealt() {
        new RefusalsTest(Samples.BUSY).none("deal() while hot", KilnVillage::deal);
    }

    private static void kilnWithoutPotsIsNotOpened() {
        new RefusalsTest(Samples.EMPTY).none("open() of nothing", KilnVillage::open);
        Samples.Sample waiting = new Samples.Sample("pots that wait", RefusalsTest::waitingAlone, 1, 3, 2, 0, 0);
        new RefusalsTest(waiting).none("open()", KilnVillage::open);
    }

    private static KilnVillage waitingAlone() {
        KilnVillage x = new KilnVillage();
        x.house();
        x.pot(0, 1, 2, 3);
        x.pot(0, 0, 0, 9);
        return x;
    }

    private static void hotKilnIsNotOpened() {
        new RefusalsTest(Samples.BUSY).none("open() while hot", KilnVillage::open);
    }

    private static void fullVillageTakesNoMore() {
        RefusalsTest full = new RefusalsTest(Samples.FULL);
        full.none("a 9th house()", KilnVillage::house);
        full.none("a 25th pot", x -> x.pot(7, 4, 3, 9));
        for (int house = 0; house < 8; house++) {
            int its = house;
            full.none("a 9th order of " + its, x -> x.order(its, 1, 200, 999));
        }
        full.none("a feed beyond 300", x -> x.feed(0, 0, 0, 0, 0));
        full.refuses("deal() without a free place", KilnVillage::deal, 0);
    }

    private static void tapeTakesNoMoreBehind280() {
        for (int length = 281; length <= 300; length++) {
            int some = length;
            Samples.Sample tape = new Samples.Sample("tape of " + some, () -> longTape(some), 8, 6, 24, some, 8);
            new RefusalsTest(tape).none("feed", x -> x.feed(-1, -1, -1, -1, -1));
        }
    }

    private static KilnVillage longTape(int length) {
        KilnVillage x = Samples.FULL.made().get();
        x.end(length);
        return x;
    }

    private static void imagesThatAreNotThere() {
        RefusalsTest empty = new RefusalsTest(Samples.EMPTY);
        for (int k = 0; k < 3; k++) {
            int some = k;
            empty.no("again(" + k + ") of none", x -> x.again(some));
        }
        new RefusalsTest(Samples.BUSY).no("again(1) of none", x -> x.again(1));
    }

    /** The busy village had this very fault before. */
    private static void faultLeavesAllButTheTape() {
        String name = "behind a fault";
        Told.plainly(withFault()).mustBe(name, Told.plainly(withoutTape()));
        Told.byWhatComes(withFault()).mustBe(name, Told.byWhatComes(withoutTape()));
        Told.ofImages(withFault()).mustBe(name, Told.ofImages(withoutTape()));
    }

    private static KilnVillage withoutTape() {
        KilnVillage x = Samples.BUSY.made().get();
        Checks.due("end(0)", x.end(0), 0);
        return x;
    }

    private static KilnVillage withFault() {
        KilnVillage x = withoutTape();
        Checks.refuses(x, "bear;x", 1, 5);
        return x;
    }
}
