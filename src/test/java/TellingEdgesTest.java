/** Promises 19 to 21 and 25: their boundary cases, one by one. */
public final class TellingEdgesTest {
    private static final int NOTHING = -1000000000;
    private static final int MIN = Integer.MIN_VALUE;
    private static final int MAX = Integer.MAX_VALUE;

    public static void main(String[] args) {
        aboutKnowsNineQuestions();
        aboutPotsThatAre();
        aboutOneThatWaits();
        aboutOneThatStands();
        aboutOneThatCracked();
        atEachPlace();
        atNoPlace();
        tellKnowsEightQuestions();
        tellOfHousesThatAre();
        tellOfEachHouse();
        tellOfTheFullVillage();
        countKnowsNineQuestions();
        countsOfTheEmptyVillage();
        countsOfTheFullVillage();
        countsGoOn();
        Checks.finish();
    }

    /** "or for another what" */
    private static void aboutKnowsNineQuestions() {
        for (Samples.Sample sample : Samples.ALL) {
            KilnVillage x = sample.made().get();
            for (int pot = 0; pot < 24; pot++) {
                for (int what : new int[] {-1, 9, MIN, MAX}) {
                    Checks.due("about(" + pot + ", " + what + ")", x.about(pot, what), -1);
                }
            }
        }
    }

    /** "NONE: there is none such": for each what. */
    private static void aboutPotsThatAre() {
        for (Samples.Sample sample : Samples.ALL) {
            KilnVillage x = sample.made().get();
            for (int what = 0; what < 9; what++) {
                for (int pot : new int[] {-1, sample.pots(), 24, MIN, MAX}) {
                    Checks.due("about(" + pot + ", " + what + ")", x.about(pot, what), -1);
                }
            }
            if (sample.pots() > 0) {
                Checks.due("HOUSE of the first", x.about(0, 0) >= 0, true);
                Checks.due("HOUSE of the last", x.about(sample.pots() - 1, 0) >= 0, true);
            }
        }
    }

    private static void about(String name, KilnVillage x, int pot, int[] due) {
        for (int what = 0; what < due.length; what++) {
            Checks.due(name + ", about(" + pot + ", " + what + ")", x.about(pot, what), due[what]);
        }
    }

    /** "(NONE as it waits)", "(as it waits: chamber and spot are 0)" */
    private static void aboutOneThatWaits() {
        KilnVillage x = new KilnVillage();
        x.house();
        x.pot(0, 4, 3, 9);
        about("without CUSTOM", x, 0, new int[] {0, 4, 3, 9, -1, -1, 0, 0, 0});
        Checks.takes(x, "if not chamber=0:part 1;if not spot=0:part 2;part 100;", 3);
        about("with CUSTOM", x, 0, new int[] {0, 4, 3, 9, -1, -1, 0, 0, 100});
        Checks.takes(x, "if chamber=0 and spot=0 and chamber<1 and spot<1:part 7;", 1);
        Checks.due("chamber and spot are 0", x.about(0, 8), 7);
        x.value(1, 1, 99);
        x.deal();
        Checks.due("and are not as it stands", x.about(0, 8), 0);
    }

    /** The first place and the last one of the greatest kiln. */
    private static void aboutOneThatStands() {
        for (int place = 0; place < 24; place++) {
            KilnVillage x = new KilnVillage();
            x.house();
            x.kiln(6);
            x.value(place / 4, place % 4, 99);
            x.pot(0, 0, 0, 0);
            x.deal();
            Checks.takes(x, "if chamber=" + place / 4 + " and spot=" + place % 4 + ":part 100;", 1);
            about("at place " + place, x, 0, new int[] {0, 0, 0, 0, place / 4, place % 4, 0, 0, 100});
        }
    }

    /** "6: 1 if CRACKED, else 0" */
    private static void aboutOneThatCracked() {
        KilnVillage x = new KilnVillage();
        x.house();
        x.shape(0, 10, 90);
        x.pot(0, 0, 0, 9);
        x.deal();
        x.rest(60);
        about("at TOUGH", x, 0, new int[] {0, 0, 0, 9, 0, 3, 0, 0, 0});
        x.shape(0, 10, 89);
        x.rest(1);
        about("above TOUGH", x, 0, new int[] {0, 0, 0, 9, 0, 3, 1, 0, 0});
    }

    /** "The POT at a PLACE." */
    private static void atEachPlace() {
        KilnVillage x = Samples.FULL.made().get();
        boolean[] found = new boolean[24];
        for (int place = 0; place < 24; place++) {
            int pot = x.at(place / 4, place % 4);
            Checks.due("a pot at place " + place, pot >= 0 && pot < 24 && !found[pot], true);
            found[Math.max(0, pot)] = true;
            Checks.due("its CHAMBER", x.about(pot, 4), place / 4);
            Checks.due("its SPOT", x.about(pot, 5), place % 4);
        }
        x.open();
        for (int place = 0; place < 24; place++) {
            Checks.due("at place " + place + " behind open()", x.at(place / 4, place % 4), -1);
        }
    }

    /** "NONE: there is none such.": no pot there, or no such place; of each kiln, full. */
    private static void atNoPlace() {
        for (int chambers = 2; chambers <= 6; chambers++) {
            KilnVillage x = new KilnVillage();
            x.house();
            x.kiln(chambers);
            Checks.due("at a free place", x.at(0, 0), -1);
            Checks.due("at the last free place", x.at(chambers - 1, 3), -1);
            for (int i = 0; i < 4 * chambers; i++) {
                x.pot(0, 0, 0, 0);
            }
            x.deal();
            for (int spot = 0; spot < 4; spot++) {
                for (int chamber : new int[] {-1, chambers, 6, MIN, MAX}) {
                    Checks.due("at(" + chamber + ", " + spot + ")", x.at(chamber, spot), -1);
                }
            }
            for (int chamber = 0; chamber < chambers; chamber++) {
                for (int spot : new int[] {-1, 4, 5, -4, MIN, MAX}) {
                    Checks.due("at(" + chamber + ", " + spot + ")", x.at(chamber, spot), -1);
                }
            }
        }
    }

    /** "or for another what": of a HOUSE that is. */
    private static void tellKnowsEightQuestions() {
        for (Samples.Sample sample : Samples.ALL) {
            KilnVillage x = sample.made().get();
            for (int house = 0; house < 8; house++) {
                for (int what : new int[] {-1, 8, MIN, MAX}) {
                    Checks.due("tell(" + house + ", " + what + ")", x.tell(house, what), NOTHING);
                }
            }
        }
    }

    /** "-1000000000 if there is none such": for each what. */
    private static void tellOfHousesThatAre() {
        KilnVillage x = new KilnVillage();
        for (int houses = 0; houses <= 8; houses++) {
            for (int what = 0; what < 8; what++) {
                for (int house : new int[] {-1, houses, 8, MIN, MAX}) {
                    Checks.due("tell(" + house + ", " + what + ") of " + houses, x.tell(house, what), NOTHING);
                }
                if (houses > 0) {
                    Checks.due("tell of the last of " + houses, x.tell(houses - 1, what), 0);
                }
            }
            Checks.due("house()", x.house(), houses < 8 ? houses : -1);
        }
    }

    /** Of two houses each has its own: none and some of all. */
    private static void tellOfEachHouse() {
        KilnVillage x = new KilnVillage();
        x.house();
        x.house();
        x.shape(0, 100, 89);
        Checks.takes(x, "part 50;", 1);
        x.pot(1, 0, 0, 9);
        x.pot(1, 1, 0, 0);
        x.deal();
        x.pot(1, 1, 0, 0);
        x.order(1, 3, 2, 9);
        x.order(1, 3, 3, 8);
        int[] before = {0, 25, 3, 2, 2, 8, 2, 0};
        int[] behind = {25 + 5, 25, 1, 0, 2, 8, 2, 1};
        for (int what = 0; what < 8; what++) {
            Checks.due("tell(1, " + what + ")", x.tell(1, what), before[what]);
            Checks.due("tell(0, " + what + ")", x.tell(0, what), 0);
        }
        x.rest(1);
        x.open();
        for (int what = 0; what < 8; what++) {
            Checks.due("tell(1, " + what + ") behind open()", x.tell(1, what), behind[what]);
            Checks.due("tell(0, " + what + ") behind open()", x.tell(0, what), what == 0 ? -25 : 0);
        }
    }

    private static void tellOfTheFullVillage() {
        KilnVillage x = Samples.FULL.made().get();
        int had = 0;
        for (int house = 0; house < 8; house++) {
            Checks.due("SILVER", x.tell(house, 0), 0);
            Checks.due("POTS", x.tell(house, 2), 3);
            Checks.due("those that stand", x.tell(house, 3), 3);
            Checks.due("ORDERS", x.tell(house, 4), 8);
            Checks.due("cracked", x.tell(house, 7), 0);
            had += x.tell(house, 1);
        }
        Checks.due("HAD of all is all VALUES", had, 4 * (10 + 9 + 8 + 7 + 6 + 5) + 6 * 6);
    }

    /** "NONE for another what." */
    private static void countKnowsNineQuestions() {
        for (Samples.Sample sample : Samples.ALL) {
            KilnVillage x = sample.made().get();
            for (int what : new int[] {-1, 9, MIN, MAX}) {
                Checks.due("count(" + what + ")", x.count(what), -1);
            }
        }
    }

    private static void countsOfTheEmptyVillage() {
        KilnVillage x = new KilnVillage();
        int[] due = {0, 0, 0, 0, 0, 0, 0, 3, 60};
        for (int what = 0; what < 9; what++) {
            Checks.due("count(" + what + ")", x.count(what), due[what]);
        }
    }

    private static void countsOfTheFullVillage() {
        KilnVillage x = Samples.FULL.made().get();
        int[] due = {8, 24, 24, 0, 0, 0, 12, 6, 120};
        for (int what = 0; what < 9; what++) {
            Checks.due("count(" + what + ")", x.count(what), due[what]);
        }
    }

    /** HOURS, logs and firings in all, over more than one firing and kiln; HEATS of CHAMBERS that are. */
    private static void countsGoOn() {
        KilnVillage x = new KilnVillage();
        x.house();
        int hours = 0;
        for (int firing = 1; firing <= 20; firing++) {
            x.kiln(2 + firing % 5);
            x.pot(0, 0, 0, 0);
            x.deal();
            x.fire(1, 9);
            x.fire(0, 0);
            x.rest(60);
            hours += 62;
            Checks.due("open()", x.open(), 0);
            Checks.due("HOURS", x.count(3), hours);
            Checks.due("logs", x.count(4), 9 * firing);
            Checks.due("firings", x.count(5), firing);
            Checks.due("CHAMBERS", x.count(7), 2 + firing % 5);
            int heats = 0;
            for (int chamber = 0; chamber < 2 + firing % 5; chamber++) {
                heats += x.heat(chamber);
            }
            Checks.due("HEATS together", x.count(8), heats);
        }
        for (int i = 0; i < 190; i++) {
            x.rest(60);
        }
        Checks.due("HOURS in all", x.count(3), hours + 190 * 60);
    }
}
