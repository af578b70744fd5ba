import java.util.ArrayList;
import java.util.Comparator;
import java.util.List;
import java.util.regex.Matcher;
import java.util.regex.Pattern;

/**
 * The document said a second time, with other means (lists, patterns, all rows of orders), for
 * the program to be compared with.
 */
final class PlainVillage {
    private static final Pattern TOKEN = Pattern.compile("[a-z]+|[0-9]+|[:;<>=]");
    // One letter for each token: i if, n not, a and, s subject, r relation, d number, b bear, p part.
    private static final Pattern TEXT = Pattern.compile("(?:(?:in?srd(?:an?srd)*:)?(?:b|pd);)*");
    private static final List<String> SUBJECTS =
            List.of("chamber", "spot", "shape", "glaze", "house", "wet", "ripe");

    static final class Pot {
        int house;
        int shape;
        int glaze;
        int wet;
        int[] place;
        boolean cracked;
        int ripe;
    }

    static final class State {
        StringBuilder tape = new StringBuilder();
        String custom = "";
        int fault = 0;
        int faultPlace = -1;
        List<int[]> houses = new ArrayList<>();
        List<List<int[]>> orders = new ArrayList<>();
        int[][] shapes = {{10, 200}, {10, 200}, {10, 200}, {10, 200}, {10, 200}};
        int[] ash = {5, 5, 5, 5};
        List<int[]> heats = new ArrayList<>();
        List<int[]> values = new ArrayList<>();
        List<Pot> pots = new ArrayList<>();
        int hours;
        int logs;
        int opened;

        State copy() {
            State s = new State();
            s.tape = new StringBuilder(tape);
            s.custom = custom;
            s.fault = fault;
            s.faultPlace = faultPlace;
            houses.forEach(h -> s.houses.add(h.clone()));
            orders.forEach(o -> s.orders.add(new ArrayList<>(o)));
            for (int i = 0; i < 5; i++) {
                s.shapes[i] = shapes[i].clone();
            }
            s.ash = ash.clone();
            heats.forEach(h -> s.heats.add(h.clone()));
            values.forEach(v -> s.values.add(v.clone()));
            for (Pot p : pots) {
                Pot q = new Pot();
                q.house = p.house;
                q.shape = p.shape;
                q.glaze = p.glaze;
                q.wet = p.wet;
                q.place = p.place;
                q.cracked = p.cracked;
                q.ripe = p.ripe;
                s.pots.add(q);
            }
            s.hours = hours;
            s.logs = logs;
            s.opened = opened;
            return s;
        }
    }

    private State s = new State();
    private final State[] images = new State[3];

    PlainVillage() {
        build(3);
    }

    private void build(int n) {
        s.heats.clear();
        s.values.clear();
        for (int c = 0; c < n; c++) {
            s.heats.add(new int[] {20});
            s.values.add(new int[] {10 - c, 11 - c, 12 - c, 13 - c});
        }
    }

    private static boolean in(long x, long a, long b) {
        return a <= x && x <= b;
    }

    int feed(int a, int b, int c, int d, int e) {
        if (s.tape.length() > 280) {
            return -1;
        }
        for (int x : new int[] {a, b, c, d, e}) {
            s.tape.append((char) (x >>> 24)).append((char) (x >>> 16 & 255))
                    .append((char) (x >>> 8 & 255)).append((char) (x & 255));
        }
        return s.tape.length();
    }

    int end(int n) {
        if (!in(n, 0, s.tape.length())) {
            return -1;
        }
        s.tape.setLength(n);
        return n;
    }

    private static char letter(String token) {
        switch (token) {
            case "if": return 'i';
            case "not": return 'n';
            case "and": return 'a';
            case "bear": return 'b';
            case "part": return 'p';
            case ":": return ':';
            case ";": return ';';
            case "<": case ">": case "=": return 'r';
            default: break;
        }
        if (Character.isDigit(token.charAt(0))) {
            return token.length() <= 3 ? 'd' : 'x';
        }
        return SUBJECTS.contains(token) ? 's' : 'x';
    }

    int custom() {
        String text = s.tape.toString();
        s.tape.setLength(0);
        StringBuilder letters = new StringBuilder();
        List<Integer> places = new ArrayList<>();
        List<String> tokens = new ArrayList<>();
        int i = 0;
        while (i < text.length()) {
            if (text.charAt(i) == ' ' || text.charAt(i) == '\n') {
                i++;
                continue;
            }
            Matcher m = TOKEN.matcher(text).region(i, text.length());
            places.add(i);
            if (m.lookingAt()) {
                tokens.add(m.group());
                letters.append(letter(m.group()));
                i = m.end();
            } else {
                tokens.add("?");
                letters.append('x');
                i++;
            }
        }
        s.fault = 0;
        s.faultPlace = -1;
        for (int n = 1; n <= letters.length(); n++) {
            Matcher m = TEXT.matcher(letters.substring(0, n));
            if (!m.matches() && !m.hitEnd()) {
                s.fault = 1;
                s.faultPlace = places.get(n - 1);
                return -1;
            }
        }
        if (!TEXT.matcher(letters).matches()) {
            s.fault = 1;
            s.faultPlace = text.length();
            return -1;
        }
        int lines = 0;
        int tests = 0;
        for (int n = 0; n < letters.length(); n++) {
            char c = letters.charAt(n);
            if (n == 0 || letters.charAt(n - 1) == ';') {
                lines++;
                tests = 0;
                if (lines == 13) {
                    return limit(3, places.get(n));
                }
            }
            if (n > 0 && (letters.charAt(n - 1) == 'i' || letters.charAt(n - 1) == 'a')) {
                tests++;
                if (tests == 5) {
                    return limit(3, places.get(n));
                }
            }
            if (c == 'd' && letters.charAt(n - 1) == 'p' && Integer.parseInt(tokens.get(n)) > 100) {
                return limit(2, places.get(n));
            }
        }
        s.custom = String.join(" ", tokens);
        return lines;
    }

    private int limit(int fault, int place) {
        s.fault = fault;
        s.faultPlace = place;
        return -1;
    }

    int fault(int what) {
        return what == 0 ? s.fault : what == 1 ? s.faultPlace : -1;
    }

    private int told(Pot p) {
        for (String line : s.custom.split(";")) {
            String[] halves = line.contains(":") ? line.split(":") : new String[] {"", line};
            String duty = halves[1].trim();
            boolean all = true;
            if (!halves[0].isBlank()) {
                for (String test : halves[0].trim().substring(3).split(" and ")) {
                    all &= holds(test.trim(), p);
                }
            }
            if (all && !duty.isEmpty()) {
                return duty.equals("bear") ? 0 : Integer.parseInt(duty.substring(5));
            }
        }
        return 0;
    }

    private boolean holds(String test, Pot p) {
        if (test.startsWith("not ")) {
            return !holds(test.substring(4), p);
        }
        String[] words = test.split(" ");
        int c = p.place == null ? 0 : p.place[0];
        int spot = p.place == null ? 0 : p.place[1];
        int[] all = {c, spot, p.shape, p.glaze, p.house, p.wet, p.ripe};
        int left = all[SUBJECTS.indexOf(words[0])];
        int right = Integer.parseInt(words[2]);
        return words[1].equals("<") ? left < right : words[1].equals(">") ? left > right : left == right;
    }

    // A house: SILVER, HAD, ever had a pot, cracked and given back.
    int house() {
        if (s.houses.size() == 8) {
            return -1;
        }
        s.houses.add(new int[4]);
        s.orders.add(new ArrayList<>());
        return s.houses.size() - 1;
    }

    boolean shape(int shape, int worth, int tough) {
        if (!in(shape, 0, 4) || !in(worth, 1, 999) || !in(tough, 1, 999)) {
            return false;
        }
        s.shapes[shape] = new int[] {worth, tough};
        return true;
    }

    boolean glaze(int glaze, int ash) {
        if (!in(glaze, 0, 3) || !in(ash, 0, 10)) {
            return false;
        }
        s.ash[glaze] = ash;
        return true;
    }

    boolean kiln(int n) {
        if (!in(n, 2, 6) || s.pots.stream().anyMatch(p -> p.place != null)) {
            return false;
        }
        build(n);
        return true;
    }

    private boolean place(int c, int spot) {
        return in(c, 0, s.heats.size() - 1) && in(spot, 0, 3);
    }

    boolean value(int c, int spot, int value) {
        if (!place(c, spot) || !in(value, 1, 99)) {
            return false;
        }
        s.values.get(c)[spot] = value;
        return true;
    }

    int pot(int house, int shape, int glaze, int wet) {
        if (s.pots.size() == 24 || !isHouse(house) || !in(shape, 0, 4) || !in(glaze, 0, 3) || !in(wet, 0, 9)) {
            return -1;
        }
        Pot p = new Pot();
        p.house = house;
        p.shape = shape;
        p.glaze = glaze;
        p.wet = wet;
        s.pots.add(p);
        s.houses.get(house)[2] = 1;
        return s.pots.size() - 1;
    }

    private boolean isHouse(int house) {
        return in(house, 0, s.houses.size() - 1);
    }

    boolean dry(int n) {
        if (!in(n, 1, 9)) {
            return false;
        }
        for (Pot p : s.pots) {
            if (p.place == null) {
                p.wet = p.wet > n ? p.wet - n : 0;
            }
        }
        return true;
    }

    int deal() {
        for (int[] h : s.heats) {
            if (h[0] > 50) {
                return -1;
            }
        }
        List<int[]> free = new ArrayList<>();
        for (int c = 0; c < s.heats.size(); c++) {
            for (int spot = 0; spot < 4; spot++) {
                if (at(c, spot) == -1) {
                    free.add(new int[] {c, spot});
                }
            }
        }
        free.sort(Comparator.comparingInt(p -> -s.values.get(p[0])[p[1]]));
        int dealt = 0;
        for (int[] place : free) {
            Pot next = null;
            for (int h = s.houses.size() - 1; h >= 0; h--) {
                for (int i = s.pots.size() - 1; i >= 0; i--) {
                    Pot p = s.pots.get(i);
                    if (p.house == h && p.place == null
                            && (next == null || s.houses.get(h)[1] <= s.houses.get(next.house)[1])) {
                        next = p;
                    }
                }
            }
            if (next == null) {
                break;
            }
            next.place = place;
            s.houses.get(next.house)[1] += s.values.get(place[0])[place[1]];
            dealt++;
        }
        return dealt;
    }

    int spread() {
        int[] had = s.houses.stream().filter(h -> h[2] == 1).mapToInt(h -> h[1]).sorted().toArray();
        return had.length == 0 ? 0 : had[had.length - 1] - had[0];
    }

    private void hour(int chamber, int logs) {
        int n = s.heats.size();
        int[] old = s.heats.stream().mapToInt(h -> h[0]).toArray();
        for (int c = 0; c < n; c++) {
            int gain = c == chamber ? 60 * logs : 0;
            gain -= (old[c] - 20) / 16;
            if (c > 0) {
                gain += (old[c - 1] - old[c]) / 4;
            }
            if (c < n - 1) {
                gain -= (old[c] - old[c + 1]) / 4;
            }
            s.heats.get(c)[0] = old[c] + gain;
        }
        s.hours++;
        s.logs += logs;
        for (Pot p : s.pots) {
            if (p.place == null || p.cracked) {
                continue;
            }
            int heat = s.heats.get(p.place[0])[0];
            if (Math.abs(heat - old[p.place[0]]) > s.shapes[p.shape][1] - 10 * p.wet) {
                p.cracked = true;
            } else {
                p.ripe += heat >= 600 ? (heat - 600) / 50 : 0;
                p.wet -= heat >= 100 && p.wet > 0 ? 1 : 0;
            }
        }
    }

    int fire(int chamber, int logs) {
        if (!in(chamber, 0, s.heats.size() - 1) || !in(logs, 0, 9)) {
            return -1;
        }
        hour(chamber, logs);
        return s.heats.get(chamber)[0];
    }

    int rest(int hours) {
        if (!in(hours, 1, 60)) {
            return -1;
        }
        for (int i = 0; i < hours; i++) {
            hour(0, 0);
        }
        return s.heats.stream().mapToInt(h -> h[0]).max().getAsInt();
    }

    int heat(int chamber) {
        return in(chamber, 0, s.heats.size() - 1) ? s.heats.get(chamber)[0] : -1;
    }

    int open() {
        if (s.heats.stream().anyMatch(h -> h[0] > 200) || s.pots.stream().noneMatch(p -> p.place != null)) {
            return -1;
        }
        int whole = 0;
        for (Pot p : s.pots) {
            if (p.place == null) {
                continue;
            }
            int worth = s.shapes[p.shape][0];
            int from = 8 * (10 - s.ash[p.glaze]) + 20;
            int[] own = s.houses.get(p.house);
            if (p.cracked) {
                own[3]++;
                int each = worth * told(p) / 100 / s.houses.size();
                for (int[] h : s.houses) {
                    h[0] -= each;
                    own[0] += each;
                }
            } else if (in(p.ripe, from, from + 6 * s.ash[p.glaze])) {
                own[0] += worth;
                whole++;
            } else {
                own[0] += worth / 2;
            }
        }
        s.pots.removeIf(p -> p.place != null);
        s.opened++;
        return whole;
    }

    int about(int pot, int what) {
        if (!in(pot, 0, s.pots.size() - 1) || !in(what, 0, 8)) {
            return -1;
        }
        Pot p = s.pots.get(pot);
        return new int[] {p.house, p.shape, p.glaze, p.wet, p.place == null ? -1 : p.place[0],
            p.place == null ? -1 : p.place[1], p.cracked ? 1 : 0, p.ripe, told(p)}[what];
    }

    int at(int chamber, int spot) {
        for (int i = 0; i < s.pots.size(); i++) {
            int[] place = s.pots.get(i).place;
            if (place != null && place[0] == chamber && place[1] == spot) {
                return i;
            }
        }
        return -1;
    }

    int tell(int house, int what) {
        if (!isHouse(house) || !in(what, 0, 7)) {
            return -1000000000;
        }
        int[] h = s.houses.get(house);
        List<int[]> orders = s.orders.get(house);
        int best = 0;
        int bestWorth = 0;
        for (int bits = 0; what > 4 && bits < 1 << orders.size(); bits++) {
            int worth = 0;
            for (int i = 0; i < orders.size(); i++) {
                worth += (bits >> i & 1) * orders.get(i)[2];
            }
            if (worth > bestWorth && someRow(orders, bits, 0)) {
                best = bits;
                bestWorth = worth;
            }
        }
        int pots = (int) s.pots.stream().filter(p -> p.house == house).count();
        int stand = (int) s.pots.stream().filter(p -> p.house == house && p.place != null).count();
        return new int[] {h[0], h[1], pots, stand, orders.size(), bestWorth, best, h[3]}[what];
    }

    private static boolean someRow(List<int[]> orders, int left, int day) {
        if (left == 0) {
            return true;
        }
        for (int i = 0; i < orders.size(); i++) {
            int[] o = orders.get(i);
            if ((left >> i & 1) != 0 && day + o[0] <= o[1] && someRow(orders, left & ~(1 << i), day + o[0])) {
                return true;
            }
        }
        return false;
    }

    int order(int house, int days, int due, int worth) {
        if (!isHouse(house) || s.orders.get(house).size() == 8 || !in(days, 1, 30) || !in(due, 1, 200)
                || !in(worth, 1, 999)) {
            return -1;
        }
        s.orders.get(house).add(new int[] {days, due, worth});
        return s.orders.get(house).size() - 1;
    }

    boolean inTime(int house, int bits) {
        return isHouse(house) && in(bits, 0, (1 << s.orders.get(house).size()) - 1)
                && someRow(s.orders.get(house), bits, 0);
    }

    boolean forget(int house) {
        if (!isHouse(house)) {
            return false;
        }
        s.orders.get(house).clear();
        return true;
    }

    int count(int what) {
        int lines = (int) s.custom.chars().filter(c -> c == ';').count();
        int[] all = {s.houses.size(), s.pots.size(), (int) s.pots.stream().filter(p -> p.place != null).count(),
            s.hours, s.logs, s.opened, lines, s.heats.size(), s.heats.stream().mapToInt(h -> h[0]).sum()};
        return in(what, 0, 8) ? all[what] : -1;
    }

    boolean image(int k) {
        if (!in(k, 0, 2)) {
            return false;
        }
        images[k] = s.copy();
        return true;
    }

    boolean again(int k) {
        if (!in(k, 0, 2) || images[k] == null) {
            return false;
        }
        s = images[k].copy();
        return true;
    }
}
