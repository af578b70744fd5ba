/** Promises 2 to 5, and what Terms 4 says of the tape and the text: its boundary cases, one by one. */
public final class CustomEdgesTest {
    private static final int BLANKS = 0x20202020;
    private static final int MIN = Integer.MIN_VALUE;
    private static final int MAX = Integer.MAX_VALUE;

    public static void main(String[] args) {
        bytesComeHighestFirst();
        bytesComeBehindTheTape();
        feedTakesAnyInt();
        feedGoesUpTo300();
        endGoesFrom0UpToTheLength();
        endLeavesTheFirstBytesAlone();
        customEmptiesTheTape();
        customOfTheEmptyTapeIsNone();
        customWithAFaultLeavesTheOneThatWas();
        customIsTheLatestSoundText();
        faultIsOfTheLatestCustom();
        faultPlacesGoFrom0To300();
        faultKnowsTwoQuestions();
        blanksAre10And32();
        wordsAreWhole();
        numbersHave1To3Digits();
        partsGoUpTo100();
        linesGoUpTo12();
        testsOfALineGoUpTo4();
        faultOneGoesBeforeTheOthers();
        ofTwoAndThreeTheFirst();
        endIsAFault();
        anyByteElsewhere();
        testsAtTheirNumber();
        testsOfTheGreatest();
        firstLineThatHolds();
        noLineTells0();
        Checks.finish();
    }

    /** "Twenty bytes come .. of each number the highest first" */
    private static void bytesComeHighestFirst() {
        for (int place = 0; place < 20; place++) {
            int[] w = {BLANKS, BLANKS, BLANKS, BLANKS, BLANKS};
            w[place / 4] = BLANKS ^ 1 << 24 - place % 4 * 8;
            KilnVillage x = new KilnVillage();
            Checks.due("feed", x.feed(w[0], w[1], w[2], w[3], w[4]), 20);
            Checks.due("custom()", x.custom(), -1);
            Checks.due("place of byte " + place, x.fault(1), place);
        }
    }

    /** ".. come behind the tape .. how many it has" */
    private static void bytesComeBehindTheTape() {
        for (int place = 0; place < 300; place++) {
            KilnVillage x = new KilnVillage();
            Checks.refuses(x, " ".repeat(place) + "!" + " ".repeat(299 - place), 1, place);
        }
    }

    /** Any number comes: its sign is a bit as others are. */
    private static void feedTakesAnyInt() {
        int[] numbers = {MIN, MAX, -1, 0, 1, 0x20202080, 0x202020ff, 0x2020ff20, 0x20ff2020};
        int[] places = {0, 0, 0, 0, 0, 3, 3, 2, 1};
        for (int i = 0; i < numbers.length; i++) {
            for (int at = 0; at < 5; at++) {
                int[] w = {BLANKS, BLANKS, BLANKS, BLANKS, BLANKS};
                w[at] = numbers[i];
                KilnVillage x = new KilnVillage();
                Checks.due("feed of " + numbers[i], x.feed(w[0], w[1], w[2], w[3], w[4]), 20);
                Checks.due("custom() of " + numbers[i], x.custom(), -1);
                Checks.due("fault(1) of " + numbers[i], x.fault(1), 4 * at + places[i]);
            }
        }
    }

    private static int feedBlanks(KilnVillage x) {
        return x.feed(BLANKS, BLANKS, BLANKS, BLANKS, BLANKS);
    }

    /** "NONE, and nothing comes, if there would be more than 300." */
    private static void feedGoesUpTo300() {
        for (int length = 0; length <= 300; length++) {
            KilnVillage x = new KilnVillage();
            Checks.feedText(x, ";".repeat(length));
            boolean room = length <= 280;
            Checks.due("feed behind " + length, feedBlanks(x), room ? length + 20 : -1);
            int now = room ? length + 20 : length;
            Checks.due("end beyond " + now, x.end(now + 1), -1);
            Checks.due("end at " + now, x.end(now), now);
        }
        KilnVillage x = new KilnVillage();
        Checks.feedText(x, "bear;".repeat(12) + " ".repeat(221));
        Checks.due("feed beyond 300", x.feed(-1, -1, -1, -1, -1), -1);
        Checks.due("end(280)", x.end(280), 280);
        Checks.due("feed up to 300", feedBlanks(x), 300);
        Checks.due("nothing came", x.custom(), 12);
    }

    /** "NONE if it has not so many, or n is below 0." */
    private static void endGoesFrom0UpToTheLength() {
        for (int length : new int[] {0, 1, 19, 20, 21, 299, 300}) {
            KilnVillage x = new KilnVillage();
            Checks.feedText(x, " ".repeat(length));
            for (int n : new int[] {-1, length + 1, MIN, MAX}) {
                Checks.due("end(" + n + ") of " + length, x.end(n), -1);
            }
            Checks.due("the whole of " + length, x.end(length), length);
            Checks.due("nothing of " + length, x.end(0), 0);
            Checks.due("nothing of nothing", x.end(0), 0);
            Checks.due("1 of nothing", x.end(1), -1);
            Checks.due("feed behind nothing", feedBlanks(x), 20);
        }
    }

    /** "The tape has its first n bytes alone" */
    private static void endLeavesTheFirstBytesAlone() {
        String text = "bear;".repeat(12);
        for (int n = 0; n <= 60; n++) {
            KilnVillage x = new KilnVillage();
            Checks.feedText(x, text);
            Checks.due("end(" + n + ")", x.end(n), n);
            Checks.due("custom() of " + n, x.custom(), n % 5 == 0 ? n / 5 : -1);
            Checks.due("fault(0) of " + n, x.fault(0), n % 5 == 0 ? 0 : 1);
        }
        KilnVillage x = new KilnVillage();
        Checks.feedText(x, "bear;part 1;part 2;");
        Checks.due("end(5)", x.end(5), 5);
        Checks.due("bytes behind the end are gone", feedBlanks(x), 25);
        Checks.due("custom()", x.custom(), 1);
    }

    /** "The tape is taken (and is empty then)": with a FAULT, too. */
    private static void customEmptiesTheTape() {
        String[] texts = {"", "bear;", "x", "part 101;", "bear;".repeat(13), " ".repeat(300), "!".repeat(300)};
        int[] faults = {0, 0, 1, 2, 3, 0, 1};
        for (int i = 0; i < texts.length; i++) {
            KilnVillage x = new KilnVillage();
            Checks.feedText(x, texts[i]);
            x.custom();
            Checks.due("fault(0) of " + texts[i], x.fault(0), faults[i]);
            Checks.due("end(1) behind " + texts[i], x.end(1), -1);
            Checks.due("end(0) behind " + texts[i], x.end(0), 0);
            Checks.due("custom() behind " + texts[i], x.custom(), 0);
            Checks.due("feed behind " + texts[i], feedBlanks(x), 20);
        }
    }

    private static KilnVillage withPot() {
        KilnVillage x = new KilnVillage();
        x.house();
        x.pot(0, 0, 0, 3);
        return x;
    }

    /** "TEXT: {LINE}": none is a text, too. */
    private static void customOfTheEmptyTapeIsNone() {
        for (String text : new String[] {"", " ", "\n", " ".repeat(300), "\n".repeat(300)}) {
            KilnVillage x = withPot();
            Checks.takes(x, "part 5;", 1);
            Checks.due("about(0, 8)", x.about(0, 8), 5);
            Checks.takes(x, text, 0);
            Checks.due("about(0, 8) of none", x.about(0, 8), 0);
        }
        KilnVillage x = withPot();
        Checks.due("count(6) at first", x.count(6), 0);
        Checks.due("about(0, 8) at first", x.about(0, 8), 0);
    }

    /** "NONE: a FAULT": the CUSTOM is the one that was, of none, one and twelve LINES. */
    private static void customWithAFaultLeavesTheOneThatWas() {
        String[] customs = {"", "part 5;", "if wet=3 and wet>2:part 6;" + "bear;".repeat(11)};
        int[] lines = {0, 1, 12};
        int[] told = {0, 5, 6};
        String[] wrong = {"part 9", "if wet=3:part 101;", "part 9;".repeat(13), "part 9;!",
            "if wet=3 and wet=3 and wet=3 and wet=3 and wet=3:part 9;"};
        int[] faults = {1, 2, 3, 1, 3};
        for (int i = 0; i < customs.length; i++) {
            for (int j = 0; j < wrong.length; j++) {
                KilnVillage x = withPot();
                Checks.takes(x, customs[i], lines[i]);
                Checks.feedText(x, wrong[j]);
                Checks.due("custom() of " + wrong[j], x.custom(), -1);
                Checks.due("fault(0) of " + wrong[j], x.fault(0), faults[j]);
                Checks.due("count(6) behind " + wrong[j], x.count(6), lines[i]);
                Checks.due("about(0, 8) behind " + wrong[j], x.about(0, 8), told[i]);
            }
        }
    }

    /** "as CUSTOM from now on" */
    private static void customIsTheLatestSoundText() {
        KilnVillage x = withPot();
        Checks.takes(x, "if wet=3:part 1;" + "part 2;".repeat(11), 12);
        Checks.due("of twelve", x.about(0, 8), 1);
        Checks.takes(x, "if wet=4:part 3;", 1);
        Checks.due("of one", x.about(0, 8), 0);
        Checks.takes(x, "part 4;" + "part 5;".repeat(11), 12);
        Checks.due("of twelve again", x.about(0, 8), 4);
        Checks.takes(x, "", 0);
        Checks.due("of none", x.about(0, 8), 0);
    }

    /** "Of the latest custom(), what 0: the FAULT, 0 without, 1: its place, NONE without." */
    private static void faultIsOfTheLatestCustom() {
        KilnVillage x = new KilnVillage();
        Checks.due("fault(0) before any", x.fault(0), 0);
        Checks.due("fault(1) before any", x.fault(1), -1);
        Checks.takes(x, "bear;", 1);
        Checks.refuses(x, "part 999;", 2, 5);
        Checks.refuses(x, "!", 1, 0);
        Checks.refuses(x, "bear;".repeat(13), 3, 60);
        Checks.feedText(x, "bear;!");
        Checks.due("fault(0) stays until custom()", x.fault(0), 3);
        Checks.due("fault(1) stays until custom()", x.fault(1), 60);
        x.end(5);
        Checks.due("custom()", x.custom(), 1);
        Checks.due("fault(0) without", x.fault(0), 0);
        Checks.due("fault(1) without", x.fault(1), -1);
    }

    private static void faultPlacesGoFrom0To300() {
        KilnVillage x = new KilnVillage();
        Checks.refuses(x, ":" + " ".repeat(299), 1, 0);
        Checks.refuses(x, " ".repeat(299) + ":", 1, 299);
        Checks.refuses(x, " ".repeat(296) + "bear", 1, 300);
        Checks.refuses(x, "bear" + " ".repeat(296), 1, 300);
        Checks.refuses(x, " ".repeat(291) + "part 101;", 2, 296);
        Checks.refuses(x, "bear;".repeat(12) + " ".repeat(235) + "bear;", 3, 295);
    }

    /** "NONE for another what." */
    private static void faultKnowsTwoQuestions() {
        KilnVillage x = new KilnVillage();
        String[] texts = {"", "part 101;"};
        for (String text : texts) {
            Checks.feedText(x, text);
            x.custom();
            for (int what : new int[] {-1, 2, MIN, MAX}) {
                Checks.due("fault(" + what + ")", x.fault(what), -1);
            }
        }
    }

    /** "blanks (10, 32) between": each other byte is a token, of one, or none. */
    private static void blanksAre10And32() {
        for (int sign = 0; sign < 256; sign++) {
            KilnVillage x = new KilnVillage();
            String text = "bear" + (char) sign + ";";
            if (sign == 10 || sign == 32) {
                Checks.takes(x, text, 1);
            } else if (sign >= 'a' && sign <= 'z') {
                Checks.refuses(x, text, 1, 0);
            } else {
                Checks.refuses(x, text, 1, sign == ';' ? 5 : 4);
            }
            String number = "part 1" + (char) sign + ";";
            if (sign == 10 || sign == 32 || sign >= '0' && sign <= '9') {
                Checks.takes(x, number, 1);
            } else {
                Checks.refuses(x, number, 1, sign == ';' ? 7 : 6);
            }
        }
    }

    /** "TOKENS, as long as they go": a word with a letter more or less is another one. */
    private static void wordsAreWhole() {
        KilnVillage x = new KilnVillage();
        String[] subjects = {"chamber", "spot", "shape", "glaze", "house", "wet", "ripe"};
        for (String word : subjects) {
            x = new KilnVillage();
            Checks.takes(x, "if " + word + "<0:bear;", 1);
            Checks.takes(x, "if not\n" + word + "\n>\n999\n:\nbear\n;", 1);
            Checks.refuses(x, "if " + word + "s<0:bear;", 1, 3);
            Checks.refuses(x, "if a" + word + "<0:bear;", 1, 3);
            Checks.refuses(x, "if " + word.substring(1) + "<0:bear;", 1, 3);
            Checks.refuses(x, "if " + word.substring(0, word.length() - 1) + "<0:bear;", 1, 3);
            Checks.refuses(x, "if " + word.charAt(0) + " " + word.substring(1) + "<0:bear;", 1, 3);
            Checks.refuses(x, "if " + word.toUpperCase() + "<0:bear;", 1, 3);
            Checks.refuses(x, word + ";", 1, 0);
        }
        x = new KilnVillage();
        Checks.takes(x, "if wet=0and not wet=0and wet=0:part0;", 1);
        Checks.refuses(x, "if notwet=0:bear;", 1, 3);
        Checks.refuses(x, "i f wet=0:bear;", 1, 0);
        Checks.refuses(x, "if wet=0 an wet=0:bear;", 1, 9);
        Checks.refuses(x, "if wet=0 ands wet=0:bear;", 1, 9);
        Checks.refuses(x, "if no wet=0:bear;", 1, 3);
        Checks.refuses(x, "par 1;", 1, 0);
        Checks.refuses(x, "parts 1;", 1, 0);
        Checks.refuses(x, "iff wet=0:bear;", 1, 0);
    }

    /** "NUMBERS, 1 to 3 digits", "a longer row of digits is no token" */
    private static void numbersHave1To3Digits() {
        KilnVillage x = new KilnVillage();
        for (String number : new String[] {"0", "9", "00", "99", "000", "099", "100"}) {
            Checks.takes(x, "part " + number + ";", 1);
            Checks.takes(x, "if wet=" + number + ":bear;", 1);
        }
        Checks.takes(x, "if wet=999:bear;", 1);
        String[] tooLong = {"0000", "0001", "1000", "9999", "4294967296", "4294967297", "0".repeat(280)};
        for (String number : tooLong) {
            x = new KilnVillage();
            Checks.refuses(x, "part " + number + ";", 1, 5);
            Checks.refuses(x, "if wet=" + number + ":bear;", 1, 7);
        }
        Checks.refuses(x, "part 10 0;", 1, 8);
        Checks.refuses(x, "part ;", 1, 5);
        Checks.refuses(x, "part -1;", 1, 5);
        Checks.refuses(x, "if wet=:bear;", 1, 7);
    }

    /** "2 a NUMBER behind part above 100" */
    private static void partsGoUpTo100() {
        for (int part = 0; part <= 999; part++) {
            KilnVillage x = withPot();
            if (part <= 100) {
                Checks.takes(x, "part " + part + ";", 1);
                Checks.due("part " + part, x.about(0, 8), part);
            } else {
                Checks.refuses(x, "part " + part + ";", 2, 5);
                Checks.due("no part " + part, x.about(0, 8), 0);
            }
            Checks.takes(x, "if wet>" + part + ":part 3;", 1);
        }
    }

    /** "a 13th LINE", "at its first token" */
    private static void linesGoUpTo12() {
        String[] lines = {"bear;", "part 1;", "if wet=0:bear;"};
        for (String line : lines) {
            for (int n = 0; n <= 12; n++) {
                Checks.takes(new KilnVillage(), line.repeat(n), n);
                Checks.takes(new KilnVillage(), "\n" + line.repeat(n) + " ", n);
            }
            for (int n = 13; n * line.length() <= 300; n++) {
                Checks.refuses(new KilnVillage(), line.repeat(n), 3, 12 * line.length());
            }
            KilnVillage x = new KilnVillage();
            Checks.refuses(x, "bear;".repeat(12) + " \n " + line, 3, 63);
        }
    }

    /** "a 5th TEST of a LINE", "at its first token": in any LINE. */
    private static void testsOfALineGoUpTo4() {
        for (int line = 0; line < 12; line++) {
            String before = "bear;".repeat(line);
            String behind = "bear;".repeat(11 - line);
            for (int n = 1; n <= 6; n++) {
                String text = before + "if " + "wet=1 and ".repeat(n - 1) + "not ripe<7:bear;" + behind;
                if (n <= 4) {
                    Checks.takes(new KilnVillage(), text, 12);
                } else {
                    Checks.refuses(new KilnVillage(), text, 3, 5 * line + 43);
                }
            }
        }
    }

    /** "If there is none, the first of: 2 .. 3": 1 goes first, wherever it is. */
    private static void faultOneGoesBeforeTheOthers() {
        KilnVillage x = new KilnVillage();
        Checks.refuses(x, "part 101;!", 1, 9);
        Checks.refuses(x, "part 101;bear", 1, 13);
        Checks.refuses(x, "part 101", 1, 8);
        Checks.refuses(x, "part 101 ", 1, 9);
        Checks.refuses(x, "part 101:", 1, 8);
        Checks.refuses(x, "bear;".repeat(12) + "bear", 1, 64);
        Checks.refuses(x, "bear;".repeat(12) + "if", 1, 62);
        Checks.refuses(x, "bear;".repeat(12) + "not", 1, 60);
        Checks.refuses(x, "bear;".repeat(59) + "bear!", 1, 299);
        Checks.refuses(x, "if wet=1" + " and wet=1".repeat(4), 1, 48);
        Checks.refuses(x, "if wet=1" + " and wet=1".repeat(3) + " and", 1, 42);
        Checks.refuses(x, "if wet=1" + " and wet=1".repeat(3) + " and not", 1, 46);
        Checks.refuses(x, "if wet=1" + " and wet=1".repeat(4) + ":part 1000;", 1, 54);
    }

    /** "the first of: 2 a NUMBER behind part above 100; 3 one too many" */
    private static void ofTwoAndThreeTheFirst() {
        KilnVillage x = new KilnVillage();
        String fiveTests = "if wet=1" + " and wet=1".repeat(4) + ":";
        Checks.refuses(x, "bear;".repeat(11) + "part 101;bear;", 2, 60);
        Checks.refuses(x, "bear;".repeat(12) + "part 101;", 3, 60);
        Checks.refuses(x, "bear;".repeat(12) + fiveTests + "part 101;", 3, 60);
        Checks.refuses(x, "bear;".repeat(11) + fiveTests + "part 101;bear;", 3, 98);
        Checks.refuses(x, fiveTests + "part 101;", 3, 43);
        Checks.refuses(x, "part 101;" + fiveTests + "bear;", 2, 5);
        Checks.refuses(x, fiveTests + "bear;part 101;", 3, 43);
        Checks.refuses(x, "part 102;part 101;", 2, 5);
        Checks.refuses(x, fiveTests + "bear;" + fiveTests + "bear;", 3, 43);
        Checks.refuses(x, "bear;part 100;part 200;part 300;", 2, 19);
    }

    private static void likePlain(String text) {
        KilnVillage x = new KilnVillage();
        PlainVillage y = new PlainVillage();
        for (int i = 0; i < text.length(); i += 20) {
            int[] w = new int[5];
            for (int j = 0; j < 20; j++) {
                w[j / 4] = w[j / 4] << 8 | (i + j < text.length() ? text.charAt(i + j) : 0);
            }
            x.feed(w[0], w[1], w[2], w[3], w[4]);
            y.feed(w[0], w[1], w[2], w[3], w[4]);
        }
        Checks.due("end of " + text, x.end(text.length()), y.end(text.length()));
        Checks.due("custom() of " + text, x.custom(), y.custom());
        Checks.due("fault(0) of " + text, x.fault(0), y.fault(0));
        Checks.due("fault(1) of " + text, x.fault(1), y.fault(1));
    }

    /** "(the end, too ..)": each text that is cut off. */
    private static void endIsAFault() {
        String text = "if not chamber < 12 and spot>3 and ripe=999\n:\npart 100 ; bear;part 101;";
        for (int n = 0; n <= text.length(); n++) {
            likePlain(text.substring(0, n));
            likePlain(text.substring(0, n) + " \n");
        }
        KilnVillage x = new KilnVillage();
        String[] cut = {"if ", "if not ", "if wet ", "if wet< ", "if wet<1 ", "if wet<1 and ", "if wet<1: ",
            "bear ", "part ", "part 1 ", "bear; bear "};
        for (String some : cut) {
            Checks.refuses(x, some, 1, some.length());
        }
    }

    /** "the first byte or token with which no text goes on": any byte at any place of a text. */
    private static void anyByteElsewhere() {
        String text = "if not wet<12 and ripe=7:part 100;bear ;";
        for (int place = 0; place < text.length(); place++) {
            for (int sign = 0; sign < 256; sign++) {
                likePlain(text.substring(0, place) + (char) sign + text.substring(place + 1));
            }
        }
    }

    private static int toldOf(KilnVillage x, String test) {
        Checks.takes(x, "if " + test + ":part 100;", 1);
        return x.about(0, 8);
    }

    private static void testsAround(KilnVillage x, String subject, int told) {
        for (int number = Math.max(0, told - 1); number <= told + 1; number++) {
            Checks.due(subject + "<" + number, toldOf(x, subject + "<" + number), told < number ? 100 : 0);
            Checks.due(subject + "=" + number, toldOf(x, subject + "=" + number), told == number ? 100 : 0);
            Checks.due(subject + ">" + number, toldOf(x, subject + ">" + number), told > number ? 100 : 0);
            Checks.due("not <" + number, toldOf(x, "not " + subject + "<" + number), told < number ? 0 : 100);
            Checks.due("not =" + number, toldOf(x, "not " + subject + "=" + number), told == number ? 0 : 100);
            Checks.due("not >" + number, toldOf(x, "not " + subject + ">" + number), told > number ? 0 : 100);
        }
    }

    private static void testsAtTheirNumber() {
        String[] subjects = {"chamber", "spot", "shape", "glaze", "house", "wet", "ripe"};
        for (int i = 0; i < subjects.length; i++) {
            KilnVillage least = new KilnVillage();
            least.house();
            least.pot(0, 0, 0, 0);
            testsAround(least, subjects[i], 0);
        }
    }

    /** The greatest CHAMBER, SPOT, SHAPE, GLAZE, HOUSE and WET; and a RIPE above all NUMBERS. */
    private static void testsOfTheGreatest() {
        String[] subjects = {"chamber", "spot", "shape", "glaze", "house", "wet"};
        int[] told = {5, 3, 4, 3, 7, 9};
        for (int i = 0; i < subjects.length; i++) {
            KilnVillage x = new KilnVillage();
            for (int house = 0; house < 8; house++) {
                x.house();
            }
            x.kiln(6);
            x.value(5, 3, 99);
            x.pot(7, 4, 3, 9);
            x.deal();
            testsAround(x, subjects[i], told[i]);
        }
        KilnVillage x = withPot();
        x.shape(0, 1, 999);
        x.deal();
        for (int hour = 0; hour < 40; hour++) {
            x.fire(0, 9);
        }
        Checks.due("RIPE above 999", x.about(0, 7) > 999, true);
        Checks.due("ripe>999", toldOf(x, "ripe>999"), 100);
        Checks.due("ripe=999", toldOf(x, "ripe=999"), 0);
        Checks.due("ripe<999", toldOf(x, "ripe<999"), 0);
    }

    /** "The first LINE whose TESTS all hold tells": the first of twelve, the last, one between. */
    private static void firstLineThatHolds() {
        for (int line = 0; line < 12; line++) {
            StringBuilder text = new StringBuilder();
            for (int i = 0; i < 12; i++) {
                text.append(i < line ? "if wet=4:part " : "if wet=3:part ").append(10 + i).append(";");
            }
            KilnVillage x = withPot();
            Checks.takes(x, text.toString(), 12);
            Checks.due("line " + line + " tells", x.about(0, 8), 10 + line);
        }
        for (int wrong = 0; wrong < 16; wrong++) {
            StringBuilder text = new StringBuilder("if ");
            for (int i = 0; i < 4; i++) {
                text.append(i > 0 ? " and " : "").append((wrong >> i & 1) == 0 ? "wet=3" : "wet=4");
            }
            KilnVillage x = withPot();
            Checks.takes(x, text + ":part 20;part 21;", 2);
            Checks.due("tests that do not hold: " + wrong, x.about(0, 8), wrong == 0 ? 20 : 21);
        }
    }

    /** "bear: 0, part: that; 0 if none does." */
    private static void noLineTells0() {
        KilnVillage x = withPot();
        Checks.takes(x, "if wet=4:part 50;".repeat(12), 12);
        Checks.due("none of twelve", x.about(0, 8), 0);
        Checks.takes(x, "bear;part 50;", 2);
        Checks.due("bear", x.about(0, 8), 0);
        Checks.takes(x, "part 0;part 50;", 2);
        Checks.due("part 0", x.about(0, 8), 0);
        Checks.takes(x, "part 100;bear;", 2);
        Checks.due("part 100", x.about(0, 8), 100);
    }
}
