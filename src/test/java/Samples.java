import java.util.List;
import java.util.function.Supplier;

/** Villages to begin with: the empty one, one in the midst of its work, one with all it can have. */
final class Samples {
    /** How to make one, and how much it has: orders are those of house 0. */
    record Sample(String name, Supplier<KilnVillage> made, int houses, int chambers, int pots, int tape,
            int orders) {
    }

    static final Sample EMPTY = new Sample("empty", KilnVillage::new, 0, 3, 0, 0, 0);
    static final Sample BUSY = new Sample("busy", Samples::busy, 4, 4, 6, 21, 2);
    static final Sample FULL = new Sample("full", Samples::full, 8, 6, 24, 300, 8);
    static final List<Sample> ALL = List.of(EMPTY, BUSY, FULL);

    /** Twelve lines, one with four tests. */
    static final String FULL_CUSTOM =
            "if wet=1:bear;".repeat(11) + "if wet=9 and ripe=0 and shape<5 and glaze<4:part 50;";
    /** Twelve lines again, 300 bytes. */
    static final String FULL_TAPE =
            "if not wet=9:part 100;\n".repeat(11) + "if wet=9 and wet=9 and wet=9 and wet=9:part 77;";

    private Samples() {
    }

    /** Hot, with pots that cracked, ripen or wait; house 3 never had one; image 1 is not there. */
    private static KilnVillage busy() {
        KilnVillage x = new KilnVillage();
        x.image(0);
        for (int house = 0; house < 4; house++) {
            x.house();
        }
        x.kiln(4);
        x.shape(0, 100, 50);
        x.shape(1, 75, 999);
        x.shape(4, 999, 300);
        x.glaze(0, 7);
        x.glaze(3, 0);
        Checks.takes(x, "if chamber=3:part 40;part 60;", 2);
        x.pot(0, 0, 0, 1);
        x.pot(2, 1, 0, 0);
        x.deal();
        x.fire(0, 2);
        x.rest(60);
        x.open();
        x.image(2);
        x.value(3, 3, 50);
        x.value(0, 0, 1);
        x.pot(0, 0, 0, 1);
        x.pot(1, 1, 1, 2);
        x.pot(1, 1, 2, 3);
        x.deal();
        x.pot(1, 3, 3, 4);
        x.pot(2, 4, 0, 9);
        x.pot(2, 2, 1, 0);
        x.fire(3, 9);
        x.fire(3, 9);
        x.fire(0, 5);
        x.order(0, 3, 4, 10);
        x.order(0, 2, 3, 9);
        x.order(2, 30, 200, 999);
        Checks.refuses(x, "bear;x", 1, 5);
        Checks.feedText(x, "if wet=4:part 9;bear;");
        return x;
    }

    /** As many of all as there may be; all 24 pots stand, the kiln is cold. */
    private static KilnVillage full() {
        KilnVillage x = new KilnVillage();
        x.kiln(6);
        for (int house = 0; house < 8; house++) {
            x.house();
            for (int i = 0; i < 8; i++) {
                x.order(house, 3 + i, 20 + house - i, 100 + (1 << i));
            }
        }
        for (int pot = 0; pot < 24; pot++) {
            x.pot(pot % 8, pot % 5, pot % 4, 9);
        }
        Checks.takes(x, FULL_CUSTOM, 12);
        for (int k = 0; k < 3; k++) {
            x.image(k);
        }
        x.deal();
        Checks.feedText(x, FULL_TAPE);
        return x;
    }
}
