import java.math.BigInteger;
import java.util.ArrayList;
import java.util.LinkedHashSet;
import java.util.List;
import java.util.NoSuchElementException;
import java.util.Set;
import java.util.TreeMap;

/**
 * The document told a second time, by other means than the class's: maps instead of rows, big integers, linear
 * equations instead of Lagrange's formula, trees of policies, and Earley's parser for error positions.
 */
final class Model {
    static final int P = 1019;
    static final int Q = 2039;

    record Share(int value, int epoch) { }

    static final class Secret {
        int k;
        int epoch;
        List<Integer> commitments = new ArrayList<>();
        Policy policy;
        TreeMap<Integer, Share> shares = new TreeMap<>();

        Secret copy() {
            Secret c = new Secret();
            c.k = k;
            c.epoch = epoch;
            c.commitments = new ArrayList<>(commitments);
            c.policy = policy;
            c.shares = new TreeMap<>(shares);
            return c;
        }
    }

    static final class World {
        int z = 1;
        int[] weight = {1, 1, 1, 1, 1, 1, 1, 1};
        boolean[] present = {true, true, true, true, true, true, true, true};
        Secret[] slots = new Secret[4];
        ArrayList<Integer> events = new ArrayList<>();

        World copy() {
            World w = new World();
            w.z = z;
            w.weight = weight.clone();
            w.present = present.clone();
            for (int i = 0; i < 4; i++) {
                w.slots[i] = slots[i] == null ? null : slots[i].copy();
            }
            w.events = new ArrayList<>(events);
            return w;
        }
    }

    World w = new World();
    World saved;
    String buffer = "";
    int errorPosition = -1;
    List<int[]> report = new ArrayList<>();

    // ---- helpers

    private static void need(boolean condition, RuntimeException otherwise) {
        if (!condition) {
            throw otherwise;
        }
    }

    private static IndexOutOfBoundsException bounds() {
        return new IndexOutOfBoundsException();
    }

    private static IllegalArgumentException argument() {
        return new IllegalArgumentException();
    }

    private static NoSuchElementException none() {
        return new NoSuchElementException();
    }

    private static boolean in(int x, int low, int high) {
        return low <= x && x <= high;
    }

    private Secret get(int slot) {
        need(w.slots[slot] != null, none());
        return w.slots[slot];
    }

    private static int pow(int a, int e, int m) {
        return BigInteger.valueOf(a).modPow(BigInteger.valueOf(e), BigInteger.valueOf(m)).intValue();
    }

    private static int member(int place) {
        return Math.floorDiv(place - 1, 3);
    }

    private static boolean has(int set, int m) {
        return (set & 1 << m) != 0;
    }

    static String state(Secret s, int place) {
        Share share = s.shares.get(place);
        if (share.epoch != s.epoch) {
            return "stale";
        }
        BigInteger product = BigInteger.ONE;
        for (int j = 0; j < s.k; j++) {
            int e = BigInteger.valueOf(place).pow(j).mod(BigInteger.valueOf(P)).intValue();
            product = product.multiply(BigInteger.valueOf(s.commitments.get(j)).pow(e)).mod(BigInteger.valueOf(Q));
        }
        return product.intValue() == pow(4, share.value, Q) ? "good" : "wrong";
    }

    private static int eval(List<Integer> a, int x) {
        BigInteger sum = BigInteger.ZERO;
        for (int j = 0; j < a.size(); j++) {
            sum = sum.add(BigInteger.valueOf(a.get(j)).multiply(BigInteger.valueOf(x).pow(j)));
        }
        return sum.mod(BigInteger.valueOf(P)).intValue();
    }

    /** The coefficients of the polynomial through the points, by elimination. */
    private static List<Integer> through(List<int[]> points) {
        int n = points.size();
        long[][] m = new long[n][n + 1];
        for (int i = 0; i < n; i++) {
            long power = 1;
            for (int j = 0; j < n; j++) {
                m[i][j] = power;
                power = power * points.get(i)[0] % P;
            }
            m[i][n] = points.get(i)[1];
        }
        for (int c = 0; c < n; c++) {
            int r = c;
            while (m[r][c] == 0) {
                r++;
            }
            long[] swap = m[r];
            m[r] = m[c];
            m[c] = swap;
            long inverse = BigInteger.valueOf(m[c][c]).modInverse(BigInteger.valueOf(P)).longValue();
            for (int j = 0; j <= n; j++) {
                m[c][j] = m[c][j] * inverse % P;
            }
            for (int i = 0; i < n; i++) {
                if (i != c) {
                    long factor = m[i][c];
                    for (int j = 0; j <= n; j++) {
                        m[i][j] = Math.floorMod(m[i][j] - factor * m[c][j], (long) P);
                    }
                }
            }
        }
        List<Integer> a = new ArrayList<>();
        for (int i = 0; i < n; i++) {
            a.add((int) m[i][n]);
        }
        return a;
    }

    private int usedPlaces() {
        int n = 0;
        for (int m = 0; m < 8; m++) {
            if (w.present[m]) {
                n += w.weight[m];
            }
        }
        return n;
    }

    private int deal(Secret s, int value, int k, int epoch) {
        List<Integer> a = new ArrayList<>(List.of(value));
        while (a.size() < k) {
            a.add(draw());
        }
        s.k = k;
        s.epoch = epoch;
        s.shares.clear();
        for (int m = 0; m < 8; m++) {
            for (int i = 1; w.present[m] && i <= w.weight[m]; i++) {
                s.shares.put(3 * m + i, new Share(eval(a, 3 * m + i), epoch));
            }
        }
        s.commitments.clear();
        for (int aj : a) {
            s.commitments.add(pow(4, aj, Q));
        }
        return s.shares.size();
    }

    private int taken(int members) {
        int t = 0;
        for (int m = 0; m < 8; m++) {
            if (has(members, m) && w.present[m]) {
                t |= 1 << m;
            }
        }
        return t;
    }

    private boolean[] openings(Secret s) {
        boolean[] opens = new boolean[256];
        int[] good = new int[8];
        for (int place : s.shares.keySet()) {
            good[member(place)] += state(s, place).equals("good") ? 1 : 0;
        }
        for (int set = 0; set < 256; set++) {
            int t = taken(set);
            int n = 0;
            for (int m = 0; m < 8; m++) {
                n += has(t, m) ? good[m] : 0;
            }
            opens[set] = n >= s.k && (s.policy == null || s.policy.holds(t));
        }
        return opens;
    }

    /** The polynomial of the shares that open the secret; a report and UnsupportedOperationException without. */
    private List<Integer> opened(int slot, int members) {
        Secret s = w.slots[slot];
        int t = taken(members);
        if (s.policy != null && !s.policy.holds(t)) {
            report = new ArrayList<>(List.of(new int[] {1, slot}, new int[] {2, t}));
            throw new UnsupportedOperationException();
        }
        List<int[]> good = new ArrayList<>();
        List<int[]> bad = new ArrayList<>();
        for (int place : s.shares.keySet()) {
            if (has(t, member(place))) {
                switch (state(s, place)) {
                    case "good" -> good.add(new int[] {place, s.shares.get(place).value});
                    case "stale" -> bad.add(new int[] {4, place});
                    default -> bad.add(new int[] {5, place});
                }
            }
        }
        if (good.size() < s.k) {
            report = new ArrayList<>(List.of(new int[] {1, slot}, new int[] {3, s.k - good.size()}));
            report.addAll(bad);
            throw new UnsupportedOperationException();
        }
        return through(good.subList(0, s.k));
    }

    private void happened(int code) {
        w.events.add(0, code);
    }

    // ---- the face

    int seed(int z) {
        int before = w.z;
        w.z = z;
        return before;
    }

    int draw() {
        w.z = BigInteger.valueOf(w.z).multiply(BigInteger.valueOf(1103515245L)).add(BigInteger.valueOf(12345)).intValue();
        return (int) ((w.z & 0xFFFFFFFFL) / 65536 % P);
    }

    int setWeight(int m, int weight) {
        need(in(m, 0, 7), bounds());
        need(in(weight, 0, 3), argument());
        int before = w.weight[m];
        w.weight[m] = weight;
        return before;
    }

    boolean setPresent(int m, boolean present) {
        need(in(m, 0, 7), bounds());
        boolean before = w.present[m];
        w.present[m] = present;
        return before;
    }

    int member(int m, int what) {
        need(in(m, 0, 7), bounds());
        need(in(what, 0, 3), argument());
        if (what < 2) {
            return what == 0 ? w.weight[m] : w.present[m] ? 1 : 0;
        }
        int n = 0;
        for (Secret s : w.slots) {
            for (int i = 1; s != null && i <= 3; i++) {
                int place = 3 * m + i;
                if (s.shares.containsKey(place) && (what == 2 || !state(s, place).equals("good"))) {
                    n++;
                }
            }
        }
        return n;
    }

    int put(int slot, int value, int k) {
        need(in(slot, 0, 3), bounds());
        need(in(value, 0, 1018) && in(k, 1, 8), argument());
        need(usedPlaces() >= k, new IllegalStateException());
        w.slots[slot] = new Secret();
        happened(100 + slot);
        return deal(w.slots[slot], value, k, 1);
    }

    int remove(int slot) {
        need(in(slot, 0, 3), bounds());
        int epoch = get(slot).epoch;
        w.slots[slot] = null;
        happened(200 + slot);
        return epoch;
    }

    int refresh(int slot) {
        need(in(slot, 0, 3), bounds());
        Secret s = get(slot);
        List<Integer> b = new ArrayList<>(List.of(0));
        while (b.size() < s.k) {
            b.add(draw());
        }
        int n = 0;
        for (int place : new ArrayList<>(s.shares.keySet())) {
            Share old = s.shares.get(place);
            if (w.present[member(place)] && !state(s, place).equals("stale")) {
                s.shares.put(place, new Share((old.value + eval(b, place)) % P, old.epoch + 1));
                n++;
            }
        }
        for (int j = 0; j < s.k; j++) {
            s.commitments.set(j, s.commitments.get(j) * pow(4, b.get(j), Q) % Q);
        }
        s.epoch++;
        happened(300 + slot);
        return n;
    }

    int reshare(int slot, int members, int k) {
        need(in(slot, 0, 3), bounds());
        need(in(members, 0, 255) && in(k, 1, 8), argument());
        Secret s = get(slot);
        int value = opened(slot, members).get(0);
        need(usedPlaces() >= k, new IllegalStateException());
        happened(400 + slot);
        return deal(s, value, k, s.epoch + 1);
    }

    int enroll(int slot, int members, int m) {
        need(in(slot, 0, 3) && in(m, 0, 7), bounds());
        need(in(members, 0, 255), argument());
        Secret s = get(slot);
        List<Integer> a = opened(slot, members);
        int n = 0;
        for (int place = 3 * m + 1; place <= 3 * m + w.weight[m]; place++) {
            if (!s.shares.containsKey(place) || !state(s, place).equals("good")) {
                s.shares.put(place, new Share(eval(a, place), s.epoch));
                n++;
            }
        }
        happened(500 + 10 * slot + m);
        return n;
    }

    int expel(int slot, int m) {
        need(in(slot, 0, 3) && in(m, 0, 7), bounds());
        Secret s = get(slot);
        int before = s.shares.size();
        s.shares.keySet().removeIf(place -> member(place) == m);
        happened(600 + 10 * slot + m);
        return before - s.shares.size();
    }

    int open(int slot, int members) {
        need(in(slot, 0, 3), bounds());
        need(in(members, 0, 255), argument());
        get(slot);
        int value = opened(slot, members).get(0);
        happened(700 + slot);
        return value;
    }

    private List<int[]> all(Secret s, int members) {
        List<int[]> points = new ArrayList<>();
        for (int place : s.shares.keySet()) {
            if (has(members, member(place))) {
                points.add(new int[] {place, s.shares.get(place).value});
            }
        }
        return points;
    }

    int combine(int slot, int members) {
        need(in(slot, 0, 3), bounds());
        need(in(members, 0, 255), argument());
        Secret s = get(slot);
        List<int[]> points = all(s, members);
        need(points.size() >= s.k, new IllegalStateException());
        return through(points.subList(0, s.k)).get(0);
    }

    boolean agree(int slot, int members) {
        need(in(slot, 0, 3), bounds());
        need(in(members, 0, 255), argument());
        Secret s = get(slot);
        List<int[]> points = all(s, members);
        // The polynomial through all of them has the degree of its last coefficient that is not 0.
        List<Integer> a = through(points);
        for (int j = s.k; j < a.size(); j++) {
            if (a.get(j) != 0) {
                return false;
            }
        }
        return true;
    }

    int secret(int slot, int what) {
        need(in(slot, 0, 3), bounds());
        need(in(what, 0, 6), argument());
        Secret s = get(slot);
        String[] states = {"good", "stale", "wrong"};
        return switch (what) {
            case 0 -> s.k;
            case 1 -> s.epoch;
            case 2 -> s.shares.size();
            case 6 -> s.policy != null ? 1 : 0;
            default -> (int) s.shares.keySet().stream().filter(x -> state(s, x).equals(states[what - 3])).count();
        };
    }

    int commitment(int slot, int index) {
        need(in(slot, 0, 3), bounds());
        need(in(index, 0, get(slot).k - 1), none());
        return get(slot).commitments.get(index);
    }

    private Share find(int slot, int place) {
        need(get(slot).shares.containsKey(place), none());
        return get(slot).shares.get(place);
    }

    int share(int slot, int place, int what) {
        need(in(slot, 0, 3) && in(place, 1, 24), bounds());
        need(in(what, 0, 2), argument());
        Share share = find(slot, place);
        return switch (what) {
            case 0 -> share.value;
            case 1 -> share.epoch;
            default -> List.of("good", "stale", "wrong").indexOf(state(get(slot), place));
        };
    }

    int setShare(int slot, int place, int value) {
        need(in(slot, 0, 3) && in(place, 1, 24), bounds());
        need(in(value, 0, 1018), argument());
        Share share = find(slot, place);
        get(slot).shares.put(place, new Share(value, share.epoch));
        return share.value;
    }

    static String textOf(int place, int value, int epoch) {
        String sum = String.valueOf(7 * place + 3 * value + epoch);
        return place + ":" + value + "@" + epoch + "#" + sum.charAt(sum.length() - 1);
    }

    int shareText(int slot, int place, int index) {
        need(in(slot, 0, 3) && in(place, 1, 24) && index >= -1, bounds());
        Share share = find(slot, place);
        return charOf(textOf(place, share.value, share.epoch), index);
    }

    private static int charOf(String text, int index) {
        need(index < text.length(), none());
        return index == -1 ? text.length() : text.charAt(index);
    }

    int importShare(int slot) {
        need(in(slot, 0, 3), bounds());
        Secret s = get(slot);
        String text = buffer;
        buffer = "";
        errorPosition = shareError(text);
        need(errorPosition < 0, argument());
        String[] n = text.split("[:@#]");
        s.shares.put(Integer.parseInt(n[0]), new Share(Integer.parseInt(n[1]), Integer.parseInt(n[2])));
        return Integer.parseInt(n[0]);
    }

    /** Walks over the fields of the text; each number is cut off by a pattern. */
    static int shareError(String text) {
        int[] low = {1, 0, 1};
        int[] high = {24, 1018, 9999};
        int[] n = new int[3];
        int at = 0;
        for (int i = 0; i < 3; i++) {
            java.util.regex.Matcher number = java.util.regex.Pattern.compile("0|[1-9][0-9]{0,3}").matcher(text);
            number.region(at, text.length());
            if (!number.lookingAt()) {
                return at;
            }
            n[i] = Integer.parseInt(number.group());
            if (!in(n[i], low[i], high[i])) {
                return at;
            }
            at = number.end();
            if (!text.startsWith(":@#".substring(i, i + 1), at)) {
                return at;
            }
            at++;
        }
        String last = textOf(n[0], n[1], n[2]);
        if (!text.startsWith(last.substring(last.length() - 1), at)) {
            return at;
        }
        return text.length() > at + 1 ? at + 1 : -1;
    }

    int bad(int slot, int index) {
        need(in(slot, 0, 3), bounds());
        Secret s = get(slot);
        List<Integer> bad = s.shares.keySet().stream().filter(x -> !state(s, x).equals("good")).toList();
        need(in(index, 0, bad.size() - 1), none());
        return bad.get(index);
    }

    int append(int packed) {
        StringBuilder more = new StringBuilder();
        for (byte b : java.nio.ByteBuffer.allocate(4).putInt(packed).array()) {
            if (b != 0) {
                need(in(b, 33, 126), argument());
                more.append((char) b);
            }
        }
        need(buffer.length() + more.length() <= 40, new IllegalStateException());
        buffer += more;
        return buffer.length();
    }

    boolean setPolicy(int slot) {
        need(in(slot, 0, 3), bounds());
        Secret s = get(slot);
        String text = buffer;
        buffer = "";
        errorPosition = text.isEmpty() ? -1 : Grammar.error(text);
        need(errorPosition < 0, argument());
        boolean before = s.policy != null;
        s.policy = text.isEmpty() ? null : new TreeReader(text).policy();
        return before;
    }

    int errorPosition() {
        return errorPosition;
    }

    boolean fulfils(int slot, int members) {
        need(in(slot, 0, 3), bounds());
        need(in(members, 0, 255), argument());
        return get(slot).policy == null || get(slot).policy.holds(members);
    }

    private Policy policyOf(int slot) {
        need(get(slot).policy != null, none());
        return get(slot).policy;
    }

    int policyText(int slot, int index) {
        need(in(slot, 0, 3) && index >= -1, bounds());
        return charOf(policyOf(slot).text(), index);
    }

    int policy(int slot, int what) {
        need(in(slot, 0, 3), bounds());
        need(in(what, 0, 2), argument());
        Policy policy = policyOf(slot);
        return what == 0 ? policy.parts() : what == 1 ? policy.depth() : policy.members();
    }

    int groups(int slot) {
        need(in(slot, 0, 3), bounds());
        int n = 0;
        for (boolean b : openings(get(slot))) {
            n += b ? 1 : 0;
        }
        return n;
    }

    int smallest(int slot, int index) {
        need(in(slot, 0, 3), bounds());
        boolean[] opens = openings(get(slot));
        List<Integer> sets = new ArrayList<>();
        for (int set = 0; set < 256; set++) {
            boolean least = opens[set];
            for (int m = 0; m < 8; m++) {
                if (has(set, m) && opens[set - (1 << m)]) {
                    least = false;
                }
            }
            if (least) {
                sets.add(set);
            }
        }
        need(in(index, 0, sets.size() - 1), none());
        return sets.get(index);
    }

    long powerBits(int slot, int m) {
        need(in(slot, 0, 3) && in(m, 0, 7), bounds());
        boolean[] opens = openings(get(slot));
        int n = 0;
        for (int set = 0; set < 256; set++) {
            if (has(set, m) && opens[set] && !opens[set - (1 << m)]) {
                n++;
            }
        }
        return Double.doubleToLongBits((double) n / (double) 128);
    }

    int healthBits(int slot) {
        need(in(slot, 0, 3), bounds());
        Secret s = get(slot);
        need(!s.shares.isEmpty(), new ArithmeticException());
        return Float.floatToIntBits((float) secret(slot, 3) / (float) s.shares.size());
    }

    int levels() {
        return report.size();
    }

    int report(int level, int what) {
        need(in(level, 0, report.size() - 1), none());
        need(in(what, 0, 1), argument());
        return report.get(level)[what];
    }

    int event(int index) {
        need(in(index, 0, Math.min(20, w.events.size()) - 1), none());
        return w.events.get(index);
    }

    private int filled() {
        int n = 0;
        for (Secret s : w.slots) {
            n += s != null ? 1 : 0;
        }
        return n;
    }

    int save() {
        saved = w.copy();
        return filled();
    }

    int restore() {
        need(saved != null, new IllegalStateException());
        w = saved.copy();
        return filled();
    }

    // ---- policies

    /** kind '0' to '7' for a member, '|', '&', or 'o' for a count. */
    record Policy(char kind, int count, List<Policy> of) {
        boolean holds(int set) {
            if (kind >= '0' && kind <= '7') {
                return has(set, kind - '0');
            }
            long met = of.stream().filter(c -> c.holds(set)).count();
            return met >= (kind == '|' ? 1 : kind == '&' ? of.size() : count);
        }

        /** The same without lists of one, and without alls in alls or alternatives in alternatives. */
        Policy plain() {
            List<Policy> parts = new ArrayList<>();
            for (Policy part : of) {
                Policy p = part.plain();
                if (kind != 'o' && p.kind == kind) {
                    parts.addAll(p.of);
                } else {
                    parts.add(p);
                }
            }
            return (kind == '|' || kind == '&') && parts.size() == 1 ? parts.get(0) : new Policy(kind, count, parts);
        }

        String text() {
            return plain().written();
        }

        private String written() {
            List<String> texts = new ArrayList<>();
            for (Policy part : of) {
                texts.add(kind == '&' && part.kind == '|' ? "(" + part.written() + ")" : part.written());
            }
            return switch (kind) {
                case '|', '&' -> String.join(String.valueOf(kind), texts);
                case 'o' -> count + "of(" + String.join(",", texts) + ")";
                default -> String.valueOf(kind);
            };
        }

        int parts() {
            return (kind == '|' || kind == '&' ? 0 : 1) + of.stream().mapToInt(Policy::parts).sum();
        }

        int depth() {
            return (kind == 'o' ? 1 : 0) + of.stream().mapToInt(Policy::depth).max().orElse(0);
        }

        int members() {
            int set = kind >= '0' && kind <= '7' ? 1 << kind - '0' : 0;
            for (Policy part : of) {
                set |= part.members();
            }
            return set;
        }
    }

    /** Recursive descent over a text that has no error. */
    static final class TreeReader {
        private final String text;
        private int at;

        TreeReader(String text) {
            this.text = text;
        }

        private char sign() {
            return at < text.length() ? text.charAt(at) : '$';
        }

        Policy policy() {
            List<Policy> alls = new ArrayList<>(List.of(all()));
            while (sign() == '|') {
                at++;
                alls.add(all());
            }
            return new Policy('|', 0, alls);
        }

        private Policy all() {
            List<Policy> parts = new ArrayList<>(List.of(part()));
            while (sign() == '&') {
                at++;
                parts.add(part());
            }
            return new Policy('&', 0, parts);
        }

        private Policy part() {
            char first = sign();
            at++;
            if (first == '(') {
                Policy inner = policy();
                at++;
                return inner;
            }
            if (sign() != 'o') {
                return new Policy(first, 0, List.of());
            }
            at += 3;
            List<Policy> conditions = new ArrayList<>(List.of(policy()));
            while (sign() == ',') {
                at++;
                conditions.add(policy());
            }
            at++;
            return new Policy('o', first - '0', conditions);
        }
    }

    /** Earley's parser over the grammar of the document, repetitions told as right recursion. */
    static final class Grammar {
        private static final String[][] RULES = {
            {"S", "A", "T"}, {"T"}, {"T", "|", "A", "T"},
            {"A", "R", "B"}, {"B"}, {"B", "&", "R", "B"},
            {"R", "member"}, {"R", "(", "S", ")"}, {"R", "count", "o", "f", "(", "S", "L", ")"},
            {"L"}, {"L", ",", "S", "L"},
        };

        record Item(int rule, int dot, int from) { }

        private static boolean matches(String terminal, char c) {
            return switch (terminal) {
                case "member" -> c >= '0' && c <= '7';
                case "count" -> c >= '1' && c <= '9';
                default -> terminal.charAt(0) == c;
            };
        }

        static int error(String text) {
            List<List<Item>> chart = new ArrayList<>();
            List<Item> first = new ArrayList<>(List.of(new Item(0, 1, 0)));
            chart.add(first);
            for (int at = 0; at <= text.length(); at++) {
                close(chart, at);
                if (at == text.length()) {
                    break;
                }
                Set<Item> next = new LinkedHashSet<>();
                for (Item i : chart.get(at)) {
                    String[] rule = RULES[i.rule];
                    if (i.dot < rule.length && !isNonterminal(rule[i.dot]) && matches(rule[i.dot], text.charAt(at))) {
                        next.add(new Item(i.rule, i.dot + 1, i.from));
                    }
                }
                if (next.isEmpty()) {
                    return at;
                }
                chart.add(new ArrayList<>(next));
            }
            return chart.get(text.length()).contains(new Item(0, RULES[0].length, 0)) ? -1 : text.length();
        }

        private static boolean isNonterminal(String symbol) {
            return symbol.length() == 1 && "STABRL".contains(symbol);
        }

        private static void close(List<List<Item>> chart, int at) {
            boolean grown = true;
            Set<Item> items = new LinkedHashSet<>(chart.get(at));
            while (grown) {
                int before = items.size();
                for (Item i : new ArrayList<>(items)) {
                    String[] rule = RULES[i.rule];
                    if (i.dot < rule.length && isNonterminal(rule[i.dot])) {
                        for (int r = 0; r < RULES.length; r++) {
                            if (RULES[r][0].equals(rule[i.dot])) {
                                items.add(new Item(r, 1, at));
                            }
                        }
                    } else if (i.dot == rule.length) {
                        List<Item> origin = i.from == at ? new ArrayList<>(items) : chart.get(i.from);
                        for (Item waiting : origin) {
                            String[] outer = RULES[waiting.rule];
                            if (waiting.dot < outer.length && outer[waiting.dot].equals(rule[0])) {
                                items.add(new Item(waiting.rule, waiting.dot + 1, waiting.from));
                            }
                        }
                    }
                }
                grown = items.size() > before;
            }
            chart.set(at, new ArrayList<>(items));
        }
    }
}
