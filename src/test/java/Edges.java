import java.util.NoSuchElementException;
import java.util.Set;
import java.util.TreeSet;

/**
 * What the edge tests share: cases that name a promise and quote a sentence of the document, vaults to begin with,
 * and arithmetic that is not the class's.
 *
 * <p>No object is used for more than 512 calls: what later calls answer is free.
 */
abstract class Edges {
    static final Class<?> BOUNDS = IndexOutOfBoundsException.class;
    static final Class<?> ARGUMENT = IllegalArgumentException.class;
    static final Class<?> NONE = NoSuchElementException.class;
    static final Class<?> UNSUPPORTED = UnsupportedOperationException.class;
    static final Class<?> STATE = IllegalStateException.class;
    static final Class<?> ARITHMETIC = ArithmeticException.class;
    static final int MIN = Integer.MIN_VALUE;
    static final int MAX = Integer.MAX_VALUE;
    static final int P = 1019;
    static final int Q = 2039;
    static final int ALL = 255;

    static final Set<Integer> PROMISES = new TreeSet<>();
    static int cases;
    static int checks;
    static int wrong;
    private static String current = "";

    interface Body {
        void run();
    }

    // ---- cases and checks

    /** A case of its own for a sentence of the promise's heading, or of the document's description. */
    static void edge(int promise, String sentence, Body body) {
        cases++;
        PROMISES.add(promise);
        current = "promise " + promise + ": \"" + sentence + "\"";
        if (!Document.quotes(promise, sentence)) {
            fault("the document does not say this");
        }
        int before = checks;
        try {
            body.run();
        } catch (RuntimeException e) {
            fault("unexpected " + e + " at " + java.util.Arrays.toString(e.getStackTrace()));
        }
        if (checks == before) {
            fault("nothing was checked");
        }
    }

    static void fault(String what) {
        fault(current, what);
    }

    static void fault(String where, String what) {
        wrong++;
        System.out.println(where + ": " + what);
    }

    static void due(String what, String got, String want) {
        checks++;
        if (!got.equals(want)) {
            fault(what + " " + got + ", due " + want);
        }
    }

    static void due(String what, long got, long want) {
        due(what, String.valueOf(got), String.valueOf(want));
    }

    static void due(String what, boolean got, boolean want) {
        due(what, String.valueOf(got), String.valueOf(want));
    }

    static void refused(Class<?> want, Body call) {
        due("exception", thrownBy(call), want.getName());
    }

    static void refused(String what, Class<?> want, Body call) {
        due(what + ": exception", thrownBy(call), want.getName());
    }

    static String thrownBy(Body call) {
        try {
            call.run();
            return "none";
        } catch (RuntimeException e) {
            return e.getClass().getName();
        }
    }

    // ---- vaults to begin with

    /** Slot 0 has the value 123; each member has one share, at its first place. */
    static SecretVault vault(int threshold) {
        SecretVault v = new SecretVault();
        v.put(0, 123, threshold);
        return v;
    }

    /** Slot 0 has the value 123 and shares at all 24 places. */
    static SecretVault full(int threshold) {
        SecretVault v = new SecretVault();
        weigh(v, 3, 3, 3, 3, 3, 3, 3, 3);
        v.put(0, 123, threshold);
        return v;
    }

    static void weigh(SecretVault v, int... weights) {
        for (int m = 0; m < weights.length; m++) {
            v.setWeight(m, weights[m]);
        }
    }

    static void onlyPresent(SecretVault v, int set) {
        for (int m = 0; m < 8; m++) {
            v.setPresent(m, (set & 1 << m) != 0);
        }
    }

    static void expelAll(SecretVault v, int slot) {
        for (int m = 0; m < 8; m++) {
            v.expel(slot, m);
        }
    }

    /** Makes the shares of a member stale by a refresh without it. */
    static void makeStale(SecretVault v, int slot, int member) {
        v.setPresent(member, false);
        v.refresh(slot);
        v.setPresent(member, true);
    }

    /** Makes the share at a place wrong, if it was good. */
    static void spoil(SecretVault v, int slot, int place) {
        v.setShare(slot, place, (v.share(slot, place, 0) + 1) % P);
    }

    static int zOf(SecretVault v) {
        int z = v.seed(0);
        v.seed(z);
        return z;
    }

    // ---- texts

    static void type(SecretVault v, String text) {
        int packed = 0;
        for (int i = 0; i < text.length(); i++) {
            packed = packed << 8 | text.charAt(i);
            if (i % 4 == 3 || i == text.length() - 1) {
                v.append(packed);
                packed = 0;
            }
        }
    }

    static boolean give(SecretVault v, int slot, String policy) {
        type(v, policy);
        return v.setPolicy(slot);
    }

    static int take(SecretVault v, int slot, String share) {
        type(v, share);
        return v.importShare(slot);
    }

    static int take(SecretVault v, int slot, int place, int value, int epoch) {
        return take(v, slot, shareText(place, value, epoch));
    }

    static String shareText(int place, int value, int epoch) {
        return place + ":" + value + "@" + epoch + "#" + (7 * place + 3 * value + epoch) % 10;
    }

    static String policyOf(SecretVault v, int slot) {
        StringBuilder text = new StringBuilder();
        int length = v.policyText(slot, -1);
        for (int i = 0; i < length; i++) {
            text.append((char) v.policyText(slot, i));
        }
        return text.toString();
    }

    static String textOf(SecretVault v, int slot, int place) {
        StringBuilder text = new StringBuilder();
        int length = v.shareText(slot, place, -1);
        for (int i = 0; i < length; i++) {
            text.append((char) v.shareText(slot, place, i));
        }
        return text.toString();
    }

    static String reportOf(SecretVault v) {
        StringBuilder text = new StringBuilder();
        int levels = v.levels();
        for (int i = 0; i < levels; i++) {
            text.append(i == 0 ? "" : " ").append(v.report(i, 0)).append(':').append(v.report(i, 1));
        }
        return text.toString();
    }

    static String placesOf(SecretVault v, int slot) {
        StringBuilder text = new StringBuilder();
        for (int place = 1; place <= 24; place++) {
            int x = place;
            if (thrownBy(() -> v.share(slot, x, 0)).equals("none")) {
                text.append(text.isEmpty() ? "" : " ").append(place);
            }
        }
        return text.toString();
    }

    static String statesOf(SecretVault v, int slot) {
        StringBuilder text = new StringBuilder();
        for (int place = 1; place <= 24; place++) {
            int x = place;
            text.append(thrownBy(() -> v.share(slot, x, 2)).equals("none") ? "gsw".charAt(v.share(slot, x, 2)) : '-');
        }
        return text.toString();
    }

    static int eventsOf(SecretVault v) {
        int n = 0;
        while (n < 30 && event(v, n) >= 0) {
            n++;
        }
        return n;
    }

    static int event(SecretVault v, int index) {
        try {
            return v.event(index);
        } catch (NoSuchElementException e) {
            return -1;
        }
    }

    // ---- arithmetic

    /** z after the draws. */
    static int drawn(int z, int times) {
        long next = z;
        for (int i = 0; i < times; i++) {
            next = (next * 1103515245L + 12345L) & 0xFFFFFFFFL;
        }
        return (int) next;
    }

    static int number(int z) {
        return (int) ((z & 0xFFFFFFFFL) / 65536 % P);
    }

    /** The polynomial that a draw from z on gives. */
    static int[] polynomial(int z, int first, int threshold) {
        int[] a = new int[threshold];
        a[0] = first;
        for (int j = 1; j < threshold; j++) {
            a[j] = number(drawn(z, j));
        }
        return a;
    }

    static int at(int[] a, int x) {
        long sum = 0;
        long power = 1;
        for (int coefficient : a) {
            sum = (sum + coefficient * power) % P;
            power = power * x % P;
        }
        return (int) sum;
    }

    static int power(int base, long exponent, int modulus) {
        long result = 1;
        for (long i = 0; i < exponent; i++) {
            result = result * base % modulus;
        }
        return (int) result;
    }

    /** The value at x through points with different places, by a search for inverses. */
    static int through(int[] places, int[] values, int x) {
        long sum = 0;
        for (int i = 0; i < places.length; i++) {
            long term = values[i];
            for (int j = 0; j < places.length; j++) {
                if (j != i) {
                    term = Math.floorMod(term * (x - places[j]) * inverse(places[i] - places[j]), (long) P);
                }
            }
            sum += term;
        }
        return (int) (sum % P);
    }

    private static int inverse(int a) {
        int b = 1;
        while (Math.floorMod(a * b, P) != 1) {
            b++;
        }
        return b;
    }
}
