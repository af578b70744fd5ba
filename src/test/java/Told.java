import java.util.LinkedHashMap;
import java.util.Map;

/** What a village answers to many calls, each call with its answer: for villages to be compared. */
final class Told {
    private final KilnVillage x;
    private final Map<String, Integer> answers = new LinkedHashMap<>();

    private Told(KilnVillage x) {
        this.x = x;
    }

    /** What is told without changing anything (but the tape, at last): some 320 calls. */
    static Told plainly(KilnVillage x) {
        Told told = new Told(x);
        told.counts("");
        told.houses();
        told.kiln();
        for (int pot = 0; pot < 24; pot++) {
            for (int what = 0; what < 9; what++) {
                told.add("about(" + pot + ", " + what + ")", x.about(pot, what));
            }
        }
        told.add("fault(0)", x.fault(0));
        told.add("fault(1)", x.fault(1));
        told.tapeLength();
        return told;
    }

    /** What shows only in what comes of it, such as the tape, a TOUGH or a VALUE: some 230 calls. */
    static Told byWhatComes(KilnVillage x) {
        Told told = new Told(x);
        told.orders(0);
        told.orders(7);
        told.tape();
        told.add("house()", x.house());
        told.add("rest(60)", x.rest(60));
        told.add("rest(60) again", x.rest(60));
        told.add("open()", x.open());
        int houses = Math.max(1, x.count(0));
        for (int i = 0; i < 24; i++) {
            told.add("pot " + i, x.pot(i % houses, i % 5, i % 4, 0));
        }
        told.add("deal()", x.deal());
        told.kiln();
        told.firing();
        return told;
    }

    /** What each image has, and whether it is there: some 180 calls. */
    static Told ofImages(KilnVillage x) {
        Told told = new Told(x);
        for (int k = 0; k < 3; k++) {
            told.add("again(" + k + ")", x.again(k) ? 1 : 0);
            told.counts(" of image " + k);
            for (int house = 0; house < 8; house++) {
                for (int what = 0; what < 8; what += 3) {
                    String call = "tell(" + house + ", " + what + ") of image " + k;
                    told.add(call, x.tell(house, what));
                }
            }
            for (int pot = 0; pot < 24; pot++) {
                told.add("about(" + pot + ", 3) of image " + k, x.about(pot, 3));
            }
            told.add("custom() of image " + k, x.custom());
        }
        return told;
    }

    void mustBe(String behind, Told want) {
        for (String call : want.answers.keySet()) {
            Checks.due(behind + ": " + call, answers.get(call), want.answers.get(call));
        }
    }

    private void add(String call, int answer) {
        answers.put(call, answer);
    }

    private void counts(String of) {
        for (int what = 0; what < 9; what++) {
            add("count(" + what + ")" + of, x.count(what));
        }
    }

    private void houses() {
        add("spread()", x.spread());
        for (int house = 0; house < 8; house++) {
            for (int what = 0; what < 8; what++) {
                add("tell(" + house + ", " + what + ")", x.tell(house, what));
            }
        }
    }

    private void kiln() {
        for (int chamber = 0; chamber < 6; chamber++) {
            add("heat(" + chamber + ")", x.heat(chamber));
            for (int spot = 0; spot < 4; spot++) {
                add("at(" + chamber + ", " + spot + ")", x.at(chamber, spot));
            }
        }
    }

    private void orders(int house) {
        for (int i = 0; i < 8; i++) {
            for (int j = i; j < 8; j++) {
                int bits = 1 << i | 1 << j;
                add("inTime(" + house + ", " + bits + ")", x.inTime(house, bits) ? 1 : 0);
            }
        }
    }

    private void tapeLength() {
        int length = x.feed(0, 0, 0, 0, 0);
        for (int n = 300; n > 280 && length < 0; n--) {
            length = x.end(n);
        }
        add("the tape's length", length);
    }

    private void tape() {
        add("custom()", x.custom());
        add("fault(0)", x.fault(0));
        add("fault(1)", x.fault(1));
        for (int pot = 0; pot < 24; pot++) {
            add("about(" + pot + ", 8)", x.about(pot, 8));
        }
    }

    private void firing() {
        for (int hour = 0; hour < 6; hour++) {
            add("fire in hour " + hour, x.fire(hour % 2, hour + 1));
        }
        for (int pot = 0; pot < 24; pot++) {
            add("cracked or not, " + pot, x.about(pot, 6));
        }
        add("rest(60), hot", x.rest(60));
        add("open(), fired", x.open());
        for (int house = 0; house < 8; house++) {
            add("SILVER of " + house, x.tell(house, 0));
            add("HAD of " + house, x.tell(house, 1));
        }
    }
}
