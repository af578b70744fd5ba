/** The example of README.md, call by call, and two of its sentences. */
public final class ReadmeTest {
    public static void main(String[] args) {
        exampleOfAFiring();
        exampleOfOrdersAndImages();
        faultLeavesTheCustomThatWas();
        Checks.finish();
    }

    private static void exampleOfAFiring() {
        KilnVillage village = new KilnVillage();
        Checks.due("house()", village.house(), 0);
        Checks.due("house()", village.house(), 1);
        Checks.due("kiln(2)", village.kiln(2), true);
        Checks.due("shape(0, 100, 500)", village.shape(0, 100, 500), true);
        Checks.due("shape(1, 60, 80)", village.shape(1, 60, 80), true);

        Checks.due("feed", village.feed(0x69662077, 0x65743e30, 0x3a706172, 0x74203530, 0x3b626561), 20);
        Checks.due("feed", village.feed(0x723b0000, 0, 0, 0, 0), 40);
        Checks.due("end(22)", village.end(22), 22);
        Checks.due("custom()", village.custom(), 2);

        Checks.due("pot(0, 0, 0, 2)", village.pot(0, 0, 0, 2), 0);
        Checks.due("pot(1, 1, 0, 4)", village.pot(1, 1, 0, 4), 1);
        Checks.due("pot(0, 0, 0, 1)", village.pot(0, 0, 0, 1), 2);
        Checks.due("dry(2)", village.dry(2), true);
        Checks.due("deal()", village.deal(), 3);
        Checks.due("at(0, 3)", village.at(0, 3), 0);

        for (int hour = 0; hour < 10; hour++) {
            village.fire(hour % 2, 5);
        }
        Checks.due("about(0, 7)", village.about(0, 7), 36);
        Checks.due("about(1, 6)", village.about(1, 6), 1);
        Checks.due("about(1, 8)", village.about(1, 8), 50);
        Checks.due("open()", village.open(), KilnVillage.NONE);
        Checks.due("rest(60)", village.rest(60), 51);
        Checks.due("open()", village.open(), 2);
        Checks.due("tell(0, 0)", village.tell(0, 0), 185);
        Checks.due("tell(1, 0)", village.tell(1, 0), 15);
    }

    private static void exampleOfOrdersAndImages() {
        KilnVillage village = new KilnVillage();
        Checks.due("house()", village.house(), 0);
        Checks.due("order(0, 3, 4, 10)", village.order(0, 3, 4, 10), 0);
        Checks.due("order(0, 2, 5, 6)", village.order(0, 2, 5, 6), 1);
        Checks.due("inTime(0, 3)", village.inTime(0, 3), true);
        Checks.due("tell(0, 5)", village.tell(0, 5), 16);
        Checks.due("image(0)", village.image(0), true);
        Checks.due("forget(0)", village.forget(0), true);
        Checks.due("again(0)", village.again(0), true);
        Checks.due("tell(0, 4)", village.tell(0, 4), 2);
    }

    /** "A text with a fault is taken off the tape, too, but the custom stays the one that was." */
    private static void faultLeavesTheCustomThatWas() {
        KilnVillage village = new KilnVillage();
        Checks.takes(village, "part 30;", 1);
        Checks.refuses(village, "bear", 1, 4);
        Checks.due("count(6)", village.count(6), 1);
        Checks.due("end(1)", village.end(1), KilnVillage.NONE);
    }
}
