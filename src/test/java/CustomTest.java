/** Promises 2 to 5, and 19's what 8: the tape and the custom's text. */
public final class CustomTest {
    public static void main(String[] args) {
        tapeIsFedAndEnded();
        tapeIsTaken();
        faultsBeforeAnyCustom();
        textsThatAreSound();
        textsThatCannotGoOn();
        partsAbove100();
        oneTooMany();
        firstFaultCounts();
        faultLeavesCustom();
        testsHold();
        negatedTestsHold();
        firstLineTells();
        nothingStaysOfEarlierTexts();
        Checks.finish();
    }

    private static void tapeIsFedAndEnded() {
        KilnVillage x = new KilnVillage();
        for (int i = 1; i <= 15; i++) {
            Checks.due("feed " + i, x.feed(0, 0, 0, 0, 0), 20 * i);
        }
        Checks.due("16th feed", x.feed(0, 0, 0, 0, 0), -1);
        Checks.due("end(301)", x.end(301), -1);
        Checks.due("end(-1)", x.end(-1), -1);
        Checks.due("end(MIN)", x.end(Integer.MIN_VALUE), -1);
        Checks.due("end(300)", x.end(300), 300);
        Checks.due("end(281)", x.end(281), 281);
        Checks.due("feed to 301", x.feed(0, 0, 0, 0, 0), -1);
        Checks.due("end(282)", x.end(282), -1);
        Checks.due("end(280)", x.end(280), 280);
        Checks.due("feed to 300", x.feed(0, 0, 0, 0, 0), 300);
        Checks.due("end(0)", x.end(0), 0);
        Checks.due("end(1)", x.end(1), -1);
    }

    private static void tapeIsTaken() {
        KilnVillage x = new KilnVillage();
        // "bear;bear;bear;bear;": of each number the highest byte comes first.
        Checks.due("feed", x.feed(0x62656172, 0x3b626561, 0x723b6265, 0x61723b62, 0x6561723b), 20);
        Checks.due("custom()", x.custom(), 4);
        Checks.due("end(1)", x.end(1), -1);
        Checks.due("custom() of no tape", x.custom(), 0);
        Checks.due("count(6)", x.count(6), 0);
        // A refused feed leaves the tape as it was.
        for (int i = 1; i <= 15; i++) {
            x.feed(0x20202020, 0x20202020, 0x20202020, 0x20202020, 0x20202020);
        }
        Checks.due("16th feed", x.feed(0, 0, 0, 0, 0), -1);
        Checks.due("custom() of blanks", x.custom(), 0);
        // What end cut off does not come again.
        Checks.feedText(x, "bear;bear;bear;");
        Checks.due("end(5)", x.end(5), 5);
        Checks.due("custom()", x.custom(), 1);
    }

    private static void faultsBeforeAnyCustom() {
        KilnVillage x = new KilnVillage();
        Checks.due("fault(0)", x.fault(0), 0);
        Checks.due("fault(1)", x.fault(1), -1);
        Checks.due("fault(2)", x.fault(2), -1);
        Checks.due("fault(-1)", x.fault(-1), -1);
        Checks.refuses(x, "x", 1, 0);
        Checks.due("fault(2)", x.fault(2), -1);
        Checks.takes(x, "", 0);
    }

    private static void textsThatAreSound() {
        KilnVillage x = new KilnVillage();
        Checks.takes(x, "bear;", 1);
        Checks.takes(x, " \n bear \n ; \n", 1);
        Checks.takes(x, "part 0;part 100;part 007;part50;", 4);
        Checks.takes(x, "if not chamber<1 and spot>999 and not wet=0 and ripe=00:part 1;", 1);
        Checks.takes(x, "if shape=1and glaze=2and not house=3:bear;", 1);
        Checks.takes(x, "bear;".repeat(12), 12);
        Checks.takes(x, "if wet=1 and wet=1 and wet=1 and wet=1:bear;".repeat(6), 6);
        Checks.takes(x, "bear;" + " ".repeat(295), 1);
        Checks.takes(x, " ".repeat(295) + "bear;", 1);
    }

    private static void textsThatCannotGoOn() {
        KilnVillage x = new KilnVillage();
        Checks.refuses(x, "bear", 1, 4);
        Checks.refuses(x, "bear  ", 1, 6);
        Checks.refuses(x, "  part", 1, 6);
        Checks.refuses(x, "part 5", 1, 6);
        Checks.refuses(x, "part;", 1, 4);
        Checks.refuses(x, "part x;", 1, 5);
        Checks.refuses(x, "part 1000;", 1, 5);
        Checks.refuses(x, "part 0001;", 1, 5);
        Checks.refuses(x, "part 99999999999999999999;", 1, 5);
        Checks.refuses(x, ";", 1, 0);
        Checks.refuses(x, "bear;;", 1, 5);
        Checks.refuses(x, "bears;", 1, 0);
        Checks.refuses(x, "bea;", 1, 0);
        Checks.refuses(x, "Bear;", 1, 0);
        Checks.refuses(x, "gear;", 1, 0);
        Checks.refuses(x, "cart 1;", 1, 0);
        Checks.refuses(x, "of wet=1:bear;", 1, 0);
        Checks.refuses(x, "if met=1:bear;", 1, 3);
        Checks.refuses(x, "bear5;", 1, 4);
        Checks.refuses(x, "bear\t;", 1, 4);
        Checks.refuses(x, "bear\r\n;", 1, 4);
        Checks.refuses(x, "bear;\0", 1, 5);
        Checks.refuses(x, "bear;\u00ff", 1, 5);
        Checks.refuses(x, "bear;\u00e2\u00ba", 1, 5);
        Checks.refuses(x, "if", 1, 2);
        Checks.refuses(x, "if :bear;", 1, 3);
        Checks.refuses(x, "if bear;", 1, 3);
        Checks.refuses(x, "if not not wet=1:bear;", 1, 7);
        Checks.refuses(x, "if not", 1, 6);
        Checks.refuses(x, "if not:bear;", 1, 6);
        Checks.refuses(x, "if worth=1:bear;", 1, 3);
        Checks.refuses(x, "if wet 1:bear;", 1, 7);
        Checks.refuses(x, "if wet==1:bear;", 1, 7);
        Checks.refuses(x, "if ==1:bear;", 1, 3);
        Checks.refuses(x, "if wet wet 1:bear;", 1, 7);
        Checks.refuses(x, "if wet:1:bear;", 1, 6);
        Checks.refuses(x, "if wet=1=bear;", 1, 8);
        Checks.refuses(x, "if and wet=1:bear;", 1, 3);
        Checks.refuses(x, "if wet=1 not wet=2:bear;", 1, 9);
        Checks.refuses(x, "if wet<=1:bear;", 1, 7);
        Checks.refuses(x, "if wet=wet:bear;", 1, 7);
        Checks.refuses(x, "if wet=1234:bear;", 1, 7);
        Checks.refuses(x, "if wet=1", 1, 8);
        Checks.refuses(x, "if wet=1;bear;", 1, 8);
        Checks.refuses(x, "if wet=1 if wet=2:bear;", 1, 9);
        Checks.refuses(x, "if wet=1 wet=2:bear;", 1, 9);
        Checks.refuses(x, "if wet=1 and:bear;", 1, 12);
        Checks.refuses(x, "if wet=1:", 1, 9);
        Checks.refuses(x, "if wet=1::bear;", 1, 9);
        Checks.refuses(x, "if wet=1:if wet=2:bear;", 1, 9);
        Checks.refuses(x, "if wet=1:and;", 1, 9);
        Checks.refuses(x, "ifwet=1:bear;", 1, 0);
        x = new KilnVillage();
        Checks.refuses(x, "and", 1, 0);
        Checks.refuses(x, "not", 1, 0);
        Checks.refuses(x, "wet=1:bear;", 1, 0);
        Checks.refuses(x, "5", 1, 0);
        Checks.refuses(x, ";".repeat(300), 1, 0);
        Checks.refuses(x, "bear;".repeat(59) + "bear ", 1, 300);
        Checks.refuses(x, "a".repeat(300), 1, 0);
        Checks.refuses(x, "part " + "1".repeat(295), 1, 5);
    }

    private static void partsAbove100() {
        KilnVillage x = new KilnVillage();
        Checks.refuses(x, "part 101;", 2, 5);
        Checks.refuses(x, "part 999;", 2, 5);
        Checks.refuses(x, "bear;\nif wet=101:part  200;", 2, 23);
        Checks.refuses(x, "part 101;part 102;", 2, 5);
    }

    private static void oneTooMany() {
        KilnVillage x = new KilnVillage();
        Checks.refuses(x, "bear;".repeat(13), 3, 60);
        Checks.refuses(x, "bear;".repeat(60), 3, 60);
        Checks.refuses(x, "bear;".repeat(12) + "  if wet=1:bear;", 3, 62);
        Checks.refuses(x, "bear;".repeat(12) + "part 1;", 3, 60);
        Checks.refuses(x, "if wet=1 and wet=1 and wet=1 and wet=1 and wet=1:bear;", 3, 43);
        Checks.refuses(x, "if wet=1 and wet=1 and wet=1 and wet=1 and not wet=1:bear;", 3, 43);
        Checks.refuses(x, "if wet=1" + " and wet=1".repeat(20) + ":bear;", 3, 43);
        Checks.refuses(x, "bear;".repeat(11) + "if wet=1" + " and wet=1".repeat(4) + ":bear;", 3, 98);
        Checks.refuses(x, "bear;".repeat(12) + "if wet=1" + " and wet=1".repeat(4) + ":bear;", 3, 60);
        // The tests are counted in each line anew.
        Checks.takes(x, "if wet=1 and wet=1 and wet=1:bear;if wet=1 and wet=1:bear;", 2);
    }

    private static void firstFaultCounts() {
        KilnVillage x = new KilnVillage();
        Checks.refuses(x, "part 101;bear", 1, 13);
        Checks.refuses(x, "part 101", 1, 8);
        Checks.refuses(x, "part 101 102;", 1, 9);
        Checks.refuses(x, "bear;".repeat(13) + "!", 1, 65);
        Checks.refuses(x, "if wet=1 and wet=1 and wet=1 and wet=1 and wet=1:", 1, 49);
        Checks.refuses(x, "bear;".repeat(12) + "part 101;", 3, 60);
        Checks.refuses(x, "part 101;" + "bear;".repeat(12), 2, 5);
        Checks.refuses(x, "if wet=1 and wet=1 and wet=1 and wet=1 and wet=1:part 101;", 3, 43);
        Checks.refuses(x, "part 101;if wet=1 and wet=1 and wet=1 and wet=1 and wet=1:bear;", 2, 5);
        Checks.refuses(x, "if wet=1" + " and wet=1".repeat(4) + ":bear;" + "bear;".repeat(12), 3, 43);
    }

    private static void faultLeavesCustom() {
        KilnVillage x = new KilnVillage();
        x.house();
        x.pot(0, 0, 0, 3);
        Checks.takes(x, "if wet=3:part 40;bear;", 2);
        Checks.refuses(x, "part 60;bear;part 50;x", 1, 21);
        Checks.due("count(6)", x.count(6), 2);
        Checks.due("about(0, 8)", x.about(0, 8), 40);
        Checks.due("feed behind a fault", x.feed(0, 0, 0, 0, 0), 20);
        x.end(0);
        Checks.takes(x, "", 0);
        Checks.due("about(0, 8)", x.about(0, 8), 0);
    }

    private static int toldOf(String text) {
        KilnVillage x = new KilnVillage();
        for (int i = 0; i < 3; i++) {
            x.house();
        }
        x.value(1, 3, 99);
        x.pot(2, 4, 3, 5);
        Checks.due("deal()", x.deal(), 1);
        Checks.takes(x, text, 1);
        return x.about(0, 8);
    }

    private static void testsHold() {
        String[] subjects = {"chamber", "spot", "shape", "glaze", "house", "wet", "ripe"};
        int[] told = {1, 3, 4, 3, 2, 5, 0};
        for (int i = 0; i < subjects.length; i++) {
            for (int number = 0; number < 7; number++) {
                String test = subjects[i];
                Checks.due(test + "=" + number, toldOf("if " + test + "=" + number + ":part 9;"),
                        told[i] == number ? 9 : 0);
                Checks.due(test + "<" + number, toldOf("if " + test + "<" + number + ":part 9;"),
                        told[i] < number ? 9 : 0);
                Checks.due(test + ">" + number, toldOf("if " + test + ">" + number + ":part 9;"),
                        told[i] > number ? 9 : 0);
            }
        }
    }

    private static void negatedTestsHold() {
        for (int number = 4; number <= 6; number++) {
            Checks.due("not =" + number, toldOf("if not wet=" + number + ":part 9;"), 5 == number ? 0 : 9);
            Checks.due("not <" + number, toldOf("if not wet<" + number + ":part 9;"), 5 < number ? 0 : 9);
            Checks.due("not >" + number, toldOf("if not wet>" + number + ":part 9;"), 5 > number ? 0 : 9);
        }
        Checks.due("all four", toldOf("if wet=5 and not wet=4 and spot=3 and shape>3:part 100;"), 100);
        Checks.due("not the 1st", toldOf("if wet=4 and not wet=4 and spot=3 and shape>3:part 100;"), 0);
        Checks.due("not the 4th", toldOf("if wet=5 and not wet=4 and spot=3 and shape>4:part 100;"), 0);
        Checks.due("not goes for one", toldOf("if not wet=4 and wet=4:part 100;"), 0);
    }

    private static void firstLineTells() {
        KilnVillage x = new KilnVillage();
        x.house();
        x.pot(0, 0, 0, 0);
        x.pot(0, 1, 0, 0);
        x.pot(0, 2, 0, 0);
        x.pot(0, 3, 0, 0);
        Checks.takes(x, "if shape=1:part 11;if shape=2:bear;if shape<3:part 33;if shape<2:part 44;", 4);
        Checks.due("about(0, 8)", x.about(0, 8), 33);
        Checks.due("about(1, 8)", x.about(1, 8), 11);
        Checks.due("about(2, 8)", x.about(2, 8), 0);
        Checks.due("about(3, 8)", x.about(3, 8), 0);
        // As it waits, chamber and spot are 0.
        Checks.takes(x, "if chamber=0 and spot=0:part 7;bear;", 2);
        Checks.due("about(0, 8)", x.about(0, 8), 7);
        Checks.takes(x, "if shape=9:bear;".repeat(11) + "part 12;", 12);
        Checks.due("about(0, 8) by the 12th line", x.about(0, 8), 12);
    }

    private static void nothingStaysOfEarlierTexts() {
        KilnVillage x = new KilnVillage();
        x.house();
        x.pot(0, 0, 0, 0);
        Checks.takes(x, "if wet=0 and wet=1:part 30;part 40;part 50;", 3);
        Checks.due("about(0, 8)", x.about(0, 8), 40);
        Checks.takes(x, "part 60;", 1);
        Checks.due("no tests of the earlier one", x.about(0, 8), 60);
        Checks.takes(x, "bear;part 70;", 2);
        Checks.due("no part of the earlier one", x.about(0, 8), 0);
        Checks.takes(x, "if wet=1:part 80;", 1);
        Checks.due("no line of the earlier one", x.about(0, 8), 0);
        Checks.refuses(x, "part 90;part 90", 1, 15);
        Checks.takes(x, "if wet=1:part 90;", 1);
        Checks.due("no line of one with a fault", x.about(0, 8), 0);
    }
}
