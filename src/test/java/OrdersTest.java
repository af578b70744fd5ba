import java.util.Random;

/** Promises 21 to 24: what is told of a house, and its orders. */
public final class OrdersTest {
    private static final int NOTHING = -1000000000;

    public static void main(String[] args) {
        ordersHaveBounds();
        setsInTime();
        bestOfSeveralIsTheLeast();
        ordersAreForgotten();
        wrongQuestions();
        againstAllRows();
        Checks.finish();
    }

    private static void ordersHaveBounds() {
        KilnVillage x = new KilnVillage();
        Checks.due("order without house", x.order(0, 1, 1, 1), -1);
        x.house();
        x.house();
        int min = Integer.MIN_VALUE;
        int max = Integer.MAX_VALUE;
        int[][] wrong = {{-1, 1, 1, 1}, {2, 1, 1, 1}, {0, 0, 1, 1}, {0, 31, 1, 1}, {0, 1, 0, 1},
            {0, 1, 201, 1}, {0, 1, 1, 0}, {0, 1, 1, 1000}, {min, 1, 1, 1}, {max, 1, 1, 1},
            {0, min, 1, 1}, {0, max, 1, 1}, {0, 1, min, 1}, {0, 1, max, 1}, {0, 1, 1, min},
            {0, 1, 1, max}};
        for (int[] w : wrong) {
            Checks.due("wrong order", x.order(w[0], w[1], w[2], w[3]), -1);
        }
        Checks.due("tell(0, 4)", x.tell(0, 4), 0);
        for (int i = 0; i < 8; i++) {
            Checks.due("order", x.order(0, i % 2 == 0 ? 1 : 30, i % 3 == 0 ? 1 : 200, i % 2 == 0 ? 999 : 1), i);
            Checks.due("tell(0, 4)", x.tell(0, 4), i + 1);
        }
        Checks.due("9th order", x.order(0, 1, 1, 1), -1);
        Checks.due("of another house", x.order(1, 1, 1, 1), 0);
        Checks.due("tell(0, 4)", x.tell(0, 4), 8);
        Checks.due("tell(1, 4)", x.tell(1, 4), 1);
    }

    private static void setsInTime() {
        KilnVillage x = new KilnVillage();
        x.house();
        Checks.due("the empty set of none", x.inTime(0, 0), true);
        Checks.due("a set of none", x.inTime(0, 1), false);
        x.order(0, 5, 5, 1);
        x.order(0, 5, 4, 1);
        x.order(0, 3, 8, 1);
        x.order(0, 2, 10, 1);
        Checks.due("done by its day", x.inTime(0, 1), true);
        Checks.due("too late", x.inTime(0, 2), false);
        Checks.due("5 + 3 by 8, 10 by 10", x.inTime(0, 13), true);
        Checks.due("in another row", x.inTime(0, 12), true);
        Checks.due("with one too late", x.inTime(0, 15), false);
        for (int bits : new int[] {16, 17, 256, -1, Integer.MIN_VALUE, Integer.MAX_VALUE, 1 << 30}) {
            Checks.due("inTime(0, " + bits + ")", x.inTime(0, bits), false);
        }
        for (int house : new int[] {-1, 1, Integer.MIN_VALUE, Integer.MAX_VALUE}) {
            Checks.due("inTime(" + house + ", 0)", x.inTime(house, 0), false);
        }
        for (int i = 4; i < 8; i++) {
            x.order(0, 1, 200, 1);
        }
        Checks.due("the 8th alone", x.inTime(0, 128), true);
        Checks.due("a 9th", x.inTime(0, 256), false);
        Checks.due("all bits", x.inTime(0, -1), false);
        Checks.due("all but the late one", x.inTime(0, 253), true);
    }

    private static void bestOfSeveralIsTheLeast() {
        KilnVillage x = new KilnVillage();
        x.house();
        x.order(0, 5, 5, 10);
        x.order(0, 5, 5, 10);
        x.order(0, 5, 5, 10);
        Checks.due("WORTH", x.tell(0, 5), 10);
        Checks.due("bits", x.tell(0, 6), 1);
        x.order(0, 2, 5, 4);
        x.order(0, 3, 5, 6);
        Checks.due("WORTH", x.tell(0, 5), 10);
        Checks.due("bits", x.tell(0, 6), 1);
        x.order(0, 3, 5, 7);
        Checks.due("WORTH", x.tell(0, 5), 11);
        Checks.due("bits", x.tell(0, 6), 8 + 32);
        KilnVillage y = new KilnVillage();
        y.house();
        y.order(0, 2, 1, 999);
        Checks.due("none in time", y.tell(0, 5), 0);
        Checks.due("no bits", y.tell(0, 6), 0);
        y.forget(0);
        for (int i = 0; i < 8; i++) {
            y.order(0, 30, 200, 999);
        }
        Checks.due("six of eight", y.tell(0, 5), 6 * 999);
        Checks.due("the first six", y.tell(0, 6), 63);
    }

    private static void ordersAreForgotten() {
        KilnVillage x = new KilnVillage();
        Checks.due("forget(0)", x.forget(0), false);
        x.house();
        x.house();
        x.order(0, 1, 9, 5);
        x.order(0, 1, 1, 5);
        x.order(1, 1, 9, 6);
        Checks.due("forget(2)", x.forget(2), false);
        Checks.due("forget(-1)", x.forget(-1), false);
        Checks.due("forget(MAX)", x.forget(Integer.MAX_VALUE), false);
        Checks.due("forget(MIN)", x.forget(Integer.MIN_VALUE), false);
        Checks.due("forget(0)", x.forget(0), true);
        Checks.due("tell(0, 4)", x.tell(0, 4), 0);
        Checks.due("tell(0, 5)", x.tell(0, 5), 0);
        Checks.due("tell(1, 5)", x.tell(1, 5), 6);
        Checks.due("inTime(0, 1)", x.inTime(0, 1), false);
        Checks.due("order", x.order(0, 4, 5, 7), 0);
        Checks.due("order", x.order(0, 2, 3, 7), 1);
        Checks.due("inTime(0, 3)", x.inTime(0, 3), false);
        Checks.due("inTime(0, 2)", x.inTime(0, 2), true);
        Checks.due("forget(0)", x.forget(0), true);
        Checks.due("forget(0) of none", x.forget(0), true);
    }

    private static void wrongQuestions() {
        KilnVillage x = new KilnVillage();
        x.house();
        for (int what : new int[] {-1, 8, 9, Integer.MIN_VALUE, Integer.MAX_VALUE}) {
            Checks.due("tell(0, " + what + ")", x.tell(0, what), NOTHING);
        }
        for (int house : new int[] {-1, 1, 8, Integer.MIN_VALUE, Integer.MAX_VALUE}) {
            for (int what = 0; what < 8; what++) {
                Checks.due("tell(" + house + ", " + what + ")", x.tell(house, what), NOTHING);
            }
        }
    }

    /** Seeded, so that each run of this test is the same. */
    private static void againstAllRows() {
        Random random = new Random(5);
        for (int turn = 0; turn < 60; turn++) {
            KilnVillage x = new KilnVillage();
            x.house();
            int n = random.nextInt(7);
            int[][] orders = new int[n][];
            for (int i = 0; i < n; i++) {
                orders[i] = new int[] {1 + random.nextInt(6), 1 + random.nextInt(18), 1 + random.nextInt(5)};
                x.order(0, orders[i][0], orders[i][1], orders[i][2]);
            }
            int best = 0;
            int bestWorth = 0;
            for (int bits = 0; bits < 1 << n; bits++) {
                boolean can = someRow(orders, bits, 0);
                Checks.due("inTime of " + bits, x.inTime(0, bits), can);
                int worth = 0;
                for (int i = 0; i < n; i++) {
                    worth += (bits >> i & 1) * orders[i][2];
                }
                if (can && worth > bestWorth) {
                    best = bits;
                    bestWorth = worth;
                }
            }
            Checks.due("WORTH", x.tell(0, 5), bestWorth);
            Checks.due("bits", x.tell(0, 6), best);
        }
    }

    private static boolean someRow(int[][] orders, int left, int day) {
        if (left == 0) {
            return true;
        }
        for (int i = 0; i < orders.length; i++) {
            if ((left >> i & 1) != 0 && day + orders[i][0] <= orders[i][1]
                    && someRow(orders, left & ~(1 << i), day + orders[i][0])) {
                return true;
            }
        }
        return false;
    }
}
