/** Promises 22 to 24, and Terms 5: their boundary cases, one by one. */
public final class OrdersEdgesTest {
    private static final int MIN = Integer.MIN_VALUE;
    private static final int MAX = Integer.MAX_VALUE;

    public static void main(String[] args) {
        ordersGoUpTo8();
        ordersOfHousesThatAre();
        daysGoFrom1To30();
        duesGoFrom1To200();
        worthsGoFrom1To999();
        refusedOrdersAreNone();
        setsOfNoOrders();
        setsOfOrdersThatAre();
        setsOfHousesThatAre();
        doneByItsDay();
        doneOneBehindTheOther();
        doneInSomeRow();
        bestOfNone();
        bestOfAll();
        bestOfSeveral();
        bestIsNotTheMost();
        forgottenOrders();
        forgettingOfHousesThatAre();
        Checks.finish();
    }

    private static KilnVillage village(int houses) {
        KilnVillage x = new KilnVillage();
        for (int i = 0; i < houses; i++) {
            x.house();
        }
        return x;
    }

    /** "ORDERS of a HOUSE, at most 8, from 0 on", "NONE: it has 8" */
    private static void ordersGoUpTo8() {
        KilnVillage x = village(8);
        for (int house = 0; house < 8; house++) {
            for (int i = 0; i < 8; i++) {
                Checks.due("ORDERS", x.tell(house, 4), i);
                Checks.due("order", x.order(house, 1, 200, 1), i);
            }
            for (int i = 0; i < 2; i++) {
                Checks.due("a 9th order", x.order(house, 1, 200, 1), -1);
                Checks.due("ORDERS", x.tell(house, 4), 8);
                Checks.due("BEST's WORTH", x.tell(house, 5), 8);
                Checks.due("BEST's bits", x.tell(house, 6), 255);
            }
        }
    }

    /** "there is none such" */
    private static void ordersOfHousesThatAre() {
        KilnVillage x = new KilnVillage();
        for (int houses = 0; houses <= 8; houses++) {
            for (int house : new int[] {-1, houses, 8, MIN, MAX}) {
                Checks.due("order(" + house + ", ..) of " + houses, x.order(house, 1, 1, 1), -1);
            }
            if (houses > 0) {
                Checks.due("order of the last", x.order(houses - 1, 1, 1, 1), 0);
            }
            x.house();
        }
    }

    /** "so many DAYS, 1 .. 30" */
    private static void daysGoFrom1To30() {
        KilnVillage x = village(1);
        for (int days : new int[] {0, 31, -1, MIN, MAX}) {
            Checks.due("order(0, " + days + ", 200, 1)", x.order(0, days, 200, 1), -1);
        }
        for (int days = 1; days <= 30; days++) {
            KilnVillage y = village(1);
            Checks.due("order(0, " + days + ", 200, 1)", y.order(0, days, 200, 1), 0);
            Checks.due("in time", y.inTime(0, 1), true);
        }
    }

    /** "DUE behind so many, 1 .. 200" */
    private static void duesGoFrom1To200() {
        KilnVillage x = village(1);
        for (int due : new int[] {0, 201, -1, MIN, MAX}) {
            Checks.due("order(0, 1, " + due + ", 1)", x.order(0, 1, due, 1), -1);
        }
        for (int due = 1; due <= 200; due++) {
            KilnVillage y = village(1);
            Checks.due("order(0, 1, " + due + ", 1)", y.order(0, 1, due, 1), 0);
            Checks.due("in time", y.inTime(0, 1), true);
        }
    }

    /** "a WORTH, 1 .. 999" */
    private static void worthsGoFrom1To999() {
        KilnVillage x = village(1);
        for (int worth : new int[] {0, 1000, -1, MIN, MAX}) {
            Checks.due("order(0, 1, 1, " + worth + ")", x.order(0, 1, 1, worth), -1);
        }
        for (int worth : new int[] {1, 2, 998, 999}) {
            KilnVillage y = village(1);
            Checks.due("order(0, 1, 1, " + worth + ")", y.order(0, 1, 1, worth), 0);
            Checks.due("BEST's WORTH", y.tell(0, 5), worth);
        }
    }

    /** "or other numbers": the ORDERS stay, and the next one has the next number. */
    private static void refusedOrdersAreNone() {
        int[][] wrong = {{0, 9, 9}, {31, 99, 9}, {1, 0, 9}, {1, 201, 9}, {1, 9, 0}, {1, 9, 1000}, {MIN, 9, 9},
            {MAX, 9, 9}, {1, MIN, 9}, {1, MAX, 9}, {1, 9, MIN}, {1, 9, MAX}};
        for (int[] w : wrong) {
            KilnVillage x = village(1);
            x.order(0, 2, 2, 5);
            Checks.due("wrong order", x.order(0, w[0], w[1], w[2]), -1);
            Checks.due("ORDERS", x.tell(0, 4), 1);
            Checks.due("BEST's WORTH", x.tell(0, 5), 5);
            Checks.due("BEST's bits", x.tell(0, 6), 1);
            Checks.due("the next one", x.order(0, 1, 3, 4), 1);
            Checks.due("both", x.inTime(0, 3), true);
        }
    }

    /** A set of none is in time, whatever the ORDERS are. */
    private static void setsOfNoOrders() {
        KilnVillage x = village(2);
        Checks.due("without ORDERS", x.inTime(0, 0), true);
        x.order(1, 30, 1, 1);
        Checks.due("with one that can't be done", x.inTime(1, 0), true);
        Checks.due("that one", x.inTime(1, 1), false);
    }

    /** "False, too: .. one of them is none": for each number of ORDERS, each other bit. */
    private static void setsOfOrdersThatAre() {
        for (int orders = 0; orders <= 8; orders++) {
            KilnVillage x = village(1);
            for (int i = 0; i < orders; i++) {
                x.order(0, 1, 200, 1);
            }
            int all = (1 << orders) - 1;
            Checks.due("all of " + orders, x.inTime(0, all), true);
            for (int bit = 0; bit < 32; bit++) {
                Checks.due("bit " + bit + " of " + orders, x.inTime(0, 1 << bit), bit < orders);
                Checks.due("all and bit " + bit + " of " + orders, x.inTime(0, all | 1 << bit), bit < orders);
            }
            for (int bits : new int[] {all + 1, -1, MIN, MAX, -256}) {
                Checks.due("inTime(0, " + bits + ") of " + orders, x.inTime(0, bits), false);
            }
        }
    }

    /** "False, too: there is no such HOUSE": the empty set, too. */
    private static void setsOfHousesThatAre() {
        KilnVillage x = new KilnVillage();
        for (int houses = 0; houses <= 8; houses++) {
            for (int house : new int[] {-1, houses, 8, MIN, MAX}) {
                Checks.due("inTime(" + house + ", 0) of " + houses, x.inTime(house, 0), false);
                Checks.due("inTime(" + house + ", 1) of " + houses, x.inTime(house, 1), false);
            }
            if (houses > 0) {
                Checks.due("inTime of the last", x.inTime(houses - 1, 0), true);
            }
            x.house();
        }
    }

    /** "each is done by its DUE day": on it, and not a day behind. */
    private static void doneByItsDay() {
        for (int days = 1; days <= 30; days++) {
            KilnVillage x = village(1);
            x.order(0, days, days, 1);
            Checks.due(days + " days by " + days, x.inTime(0, 1), true);
            if (days > 1) {
                KilnVillage y = village(1);
                y.order(0, days, days - 1, 1);
                Checks.due(days + " days by " + (days - 1), y.inTime(0, 1), false);
            }
        }
    }

    /** "It does one behind the other": eight of 25 days by 200, and not with a day more. */
    private static void doneOneBehindTheOther() {
        KilnVillage x = village(2);
        for (int i = 0; i < 8; i++) {
            x.order(0, 25, 200, 999);
            x.order(1, i == 7 ? 26 : 25, 200, 999);
        }
        Checks.due("200 days by 200", x.inTime(0, 255), true);
        Checks.due("BEST's WORTH", x.tell(0, 5), 8 * 999);
        Checks.due("BEST's bits", x.tell(0, 6), 255);
        Checks.due("201 days by 200", x.inTime(1, 255), false);
        Checks.due("seven of them", x.inTime(1, 254), true);
        Checks.due("BEST's WORTH", x.tell(1, 5), 7 * 999);
        Checks.due("BEST's bits", x.tell(1, 6), 127);
    }

    /** "if they can be done in some row": the numbers' row is not it. */
    private static void doneInSomeRow() {
        KilnVillage x = village(2);
        for (int i = 0; i < 8; i++) {
            x.order(0, 1, 8 - i, 1);
            x.order(1, 1, i == 7 ? 7 : i + 1, 1);
        }
        Checks.due("the last first", x.inTime(0, 255), true);
        Checks.due("two by 7, and 7 in all too many", x.inTime(1, 255), false);
        Checks.due("without one of them", x.inTime(1, 191), true);
        KilnVillage y = village(1);
        y.order(0, 5, 10, 1);
        y.order(0, 5, 5, 1);
        y.order(0, 5, 10, 1);
        Checks.due("5 by 5, 10 by 10", y.inTime(0, 3), true);
        Checks.due("10 by 10, the other two", y.inTime(0, 5), true);
        Checks.due("15 by 10", y.inTime(0, 7), false);
    }

    private static void bestOfNone() {
        KilnVillage x = village(1);
        Checks.due("BEST's WORTH without ORDERS", x.tell(0, 5), 0);
        Checks.due("BEST's bits without ORDERS", x.tell(0, 6), 0);
        for (int i = 0; i < 8; i++) {
            x.order(0, 30, 29, 999);
            Checks.due("BEST's WORTH, none in time", x.tell(0, 5), 0);
            Checks.due("BEST's bits, none in time", x.tell(0, 6), 0);
        }
    }

    private static void bestOfAll() {
        KilnVillage x = village(1);
        for (int i = 0; i < 8; i++) {
            x.order(0, 1, i + 1, 999);
            Checks.due("BEST's WORTH", x.tell(0, 5), 999 * (i + 1));
            Checks.due("BEST's bits", x.tell(0, 6), (1 << i + 1) - 1);
        }
    }

    /** "of several that of which the bits, as a number, are least" */
    private static void bestOfSeveral() {
        for (int can = 1; can <= 8; can++) {
            KilnVillage x = village(1);
            for (int i = 0; i < 8; i++) {
                x.order(0, 1, can, 7);
            }
            Checks.due("BEST's WORTH of " + can, x.tell(0, 5), 7 * can);
            Checks.due("BEST's bits of " + can, x.tell(0, 6), (1 << can) - 1);
        }
        KilnVillage x = village(1);
        x.order(0, 2, 2, 1);
        x.order(0, 2, 2, 2);
        x.order(0, 1, 2, 3);
        x.order(0, 2, 2, 3);
        Checks.due("3 by one of two", x.tell(0, 6), 4);
        x.order(0, 1, 1, 1);
        Checks.due("4 by two", x.tell(0, 6), 4 + 16);
        x.order(0, 2, 2, 4);
        Checks.due("4 by the least bits", x.tell(0, 6), 4 + 16);
    }

    /** The most WORTH by one of the most DAYS, and by many small ones. */
    private static void bestIsNotTheMost() {
        KilnVillage x = village(1);
        for (int i = 0; i < 7; i++) {
            x.order(0, 1, 30, 100);
        }
        x.order(0, 30, 30, 701);
        Checks.due("one of 701", x.tell(0, 5), 701);
        Checks.due("its bit", x.tell(0, 6), 128);
        KilnVillage y = village(1);
        for (int i = 0; i < 7; i++) {
            y.order(0, 1, 30, 100);
        }
        y.order(0, 30, 30, 700);
        Checks.due("seven of 100, or one of 700", y.tell(0, 5), 700);
        Checks.due("the least bits", y.tell(0, 6), 127);
    }

    /** "A HOUSE has no ORDERS any more": of none, some, all. */
    private static void forgottenOrders() {
        for (int orders = 0; orders <= 8; orders++) {
            KilnVillage x = village(2);
            for (int i = 0; i < orders; i++) {
                x.order(0, 1, 8 - i, 9);
            }
            x.order(1, 1, 1, 3);
            Checks.due("forget(0) of " + orders, x.forget(0), true);
            for (int what = 4; what <= 6; what++) {
                Checks.due("tell(0, " + what + ")", x.tell(0, what), 0);
            }
            Checks.due("the empty set", x.inTime(0, 0), true);
            Checks.due("the first one", x.inTime(0, 1), false);
            Checks.due("those of another house", x.tell(1, 5), 3);
            for (int i = 0; i < 8; i++) {
                Checks.due("order anew", x.order(0, 2, 2 * i + 2, 5), i);
            }
            Checks.due("a 9th", x.order(0, 2, 200, 5), -1);
            Checks.due("all of them", x.inTime(0, 255), true);
            Checks.due("BEST's WORTH", x.tell(0, 5), 40);
        }
    }

    /** "false: there is none such." */
    private static void forgettingOfHousesThatAre() {
        KilnVillage x = new KilnVillage();
        for (int houses = 0; houses <= 8; houses++) {
            for (int house : new int[] {-1, houses, 8, MIN, MAX}) {
                Checks.due("forget(" + house + ") of " + houses, x.forget(house), false);
            }
            if (houses > 0) {
                int last = houses - 1;
                x.order(last, 1, 1, 1);
                Checks.due("forget(" + last + ")", x.forget(last), true);
                Checks.due("ORDERS", x.tell(last, 4), 0);
            }
            x.house();
        }
    }
}
