import java.util.ArrayList;
import java.util.List;
import java.util.NoSuchElementException;

/** A method for each promise of the document: ordinary inputs, the edges that it names, and wrong inputs. */
public final class PromiseTest {
    private static final Class<?> BOUNDS = IndexOutOfBoundsException.class;
    private static final Class<?> ARGUMENT = IllegalArgumentException.class;
    private static final Class<?> NONE = NoSuchElementException.class;
    private static final Class<?> UNSUPPORTED = UnsupportedOperationException.class;
    private static final Class<?> STATE = IllegalStateException.class;
    private static final Class<?> ARITHMETIC = ArithmeticException.class;
    private static final int MIN = Integer.MIN_VALUE;
    private static final int MAX = Integer.MAX_VALUE;

    private static int promise;
    private static int checks;
    private static int wrong;

    private interface Call {
        void run();
    }

    public static void main(String[] args) {
        List<Call> promises = List.of(
            PromiseTest::newObject, PromiseTest::seed, PromiseTest::draw, PromiseTest::setWeight,
            PromiseTest::setPresent, PromiseTest::member, PromiseTest::put, PromiseTest::remove,
            PromiseTest::refresh, PromiseTest::reshare, PromiseTest::enroll, PromiseTest::expel,
            PromiseTest::open, PromiseTest::combine, PromiseTest::agree, PromiseTest::secret,
            PromiseTest::commitment, PromiseTest::share, PromiseTest::setShare, PromiseTest::shareText,
            PromiseTest::importShare, PromiseTest::bad, PromiseTest::append, PromiseTest::setPolicy,
            PromiseTest::errorPosition, PromiseTest::fulfils, PromiseTest::policyText, PromiseTest::policy,
            PromiseTest::groups, PromiseTest::smallest, PromiseTest::powerBits, PromiseTest::healthBits,
            PromiseTest::levels, PromiseTest::report, PromiseTest::event, PromiseTest::save, PromiseTest::restore);
        for (Call test : promises) {
            promise++;
            int before = checks;
            try {
                test.run();
            } catch (RuntimeException e) {
                wrong++;
                System.out.println("promise " + promise + ": unexpected " + e + " at " + e.getStackTrace()[0]);
            }
            due("number of checks is not 0", checks > before, true);
        }
        due("number of promises", promise, 37);
        System.out.println(wrong == 0 ? checks + " checks of 37 promises hold" : wrong + " checks do not hold");
        if (wrong != 0) {
            System.exit(1);
        }
    }

    // ---- helpers

    private static String line() {
        return StackWalker.getInstance().walk(frames -> frames.dropWhile(f -> f.getMethodName().equals("line")
            || f.getMethodName().equals("due") || f.getMethodName().equals("dueThrow")
            || f.getMethodName().equals("fails")).findFirst().get().getLineNumber() + "");
    }

    private static void due(String what, long got, long want) {
        checks++;
        if (got != want) {
            wrong++;
            System.out.println("promise " + promise + ", line " + line() + ": " + what + " " + got + ", due " + want);
        }
    }

    private static void due(String what, boolean got, boolean want) {
        due(what, got ? 1 : 0, want ? 1 : 0);
    }

    private static void due(String what, String got, String want) {
        checks++;
        if (!got.equals(want)) {
            wrong++;
            System.out.println("promise " + promise + ", line " + line() + ": " + what + " " + got + ", due " + want);
        }
    }

    private static void dueThrow(Class<?> want, Call call) {
        Class<?> got = null;
        try {
            call.run();
        } catch (RuntimeException e) {
            got = e.getClass();
        }
        due("exception", got == null ? "nothing" : got.getName(), want.getName());
    }

    /** With one secret: value 123, threshold 3, polynomial 123 + 534 x + 823 x^2, weights 1, all present. */
    private static SecretVault vault() {
        SecretVault v = new SecretVault();
        v.put(0, 123, 3);
        return v;
    }

    private static int first(int x) {
        return (123 + 534 * x + 823 * x * x) % 1019;
    }

    /** The same secret, with shares at all 24 places. */
    private static SecretVault fullVault() {
        SecretVault v = new SecretVault();
        for (int m = 0; m < 8; m++) {
            v.setWeight(m, 3);
        }
        v.put(0, 123, 3);
        return v;
    }

    private static int power(int base, int exponent, int modulus) {
        int result = 1;
        for (int i = 0; i < exponent; i++) {
            result = result * base % modulus;
        }
        return result;
    }

    private static void type(SecretVault v, String text) {
        for (char c : text.toCharArray()) {
            v.append(c);
        }
    }

    private static boolean policy(SecretVault v, int slot, String text) {
        type(v, text);
        return v.setPolicy(slot);
    }

    private static String policyTextOf(SecretVault v, int slot) {
        StringBuilder text = new StringBuilder();
        for (int i = 0; i < v.policyText(slot, -1); i++) {
            text.append((char) v.policyText(slot, i));
        }
        return text.toString();
    }

    private static String shareTextOf(SecretVault v, int slot, int place) {
        StringBuilder text = new StringBuilder();
        for (int i = 0; i < v.shareText(slot, place, -1); i++) {
            text.append((char) v.shareText(slot, place, i));
        }
        return text.toString();
    }

    private static int importText(SecretVault v, int slot, String text) {
        type(v, text);
        return v.importShare(slot);
    }

    private static void makeStale(SecretVault v, int slot, int member) {
        v.setPresent(member, false);
        v.refresh(slot);
        v.setPresent(member, true);
    }

    private static String report(SecretVault v) {
        StringBuilder text = new StringBuilder();
        for (int i = 0; i < v.levels(); i++) {
            text.append(v.report(i, 0)).append(':').append(v.report(i, 1)).append(' ');
        }
        return text.toString().trim();
    }

    private static int events(SecretVault v) {
        int n = 0;
        try {
            for (; n < 1000; n++) {
                v.event(n);
            }
        } catch (NoSuchElementException e) {
            return n;
        }
        return n;
    }

    // ---- 1 to 6: members and random numbers

    private static void newObject() {
        SecretVault v = new SecretVault();
        for (int slot = 0; slot < 4; slot++) {
            int s = slot;
            dueThrow(NONE, () -> v.secret(s, 0));
            dueThrow(NONE, () -> v.remove(s));
        }
        for (int m = 0; m < 8; m++) {
            due("weight", v.member(m, 0), 1);
            due("present", v.member(m, 1), 1);
            due("shares", v.member(m, 2), 0);
            due("bad shares", v.member(m, 3), 0);
        }
        due("levels", v.levels(), 0);
        due("error position", v.errorPosition(), -1);
        due("buffer", v.append(0), 0);
        dueThrow(NONE, () -> v.event(0));
        dueThrow(STATE, () -> v.restore());
        due("z", v.seed(5), 1);
    }

    private static void seed() {
        SecretVault v = new SecretVault();
        due("first", v.seed(MIN), 1);
        due("second", v.seed(-7), MIN);
        due("third", v.seed(MAX), -7);
        due("fourth", v.seed(1), MAX);
        due("draw", v.draw(), 534);
        due("after a draw", v.seed(0), 1103515245 + 12345);
    }

    private static void draw() {
        SecretVault v = new SecretVault();
        due("first", v.draw(), 534);
        due("second", v.draw(), 823);
        due("z", v.seed(1), -1770082073);
        due("again", v.draw(), 534);
        int z = -123456789;
        v.seed(z);
        for (int i = 0; i < 50; i++) {
            z = z * 1103515245 + 12345;
            due("number", v.draw(), (z >>> 16) % 1019);
        }
    }

    private static void setWeight() {
        SecretVault v = vault();
        due("before", v.setWeight(0, 3), 1);
        due("before", v.setWeight(0, 0), 3);
        due("before", v.setWeight(7, 2), 1);
        due("before", v.setWeight(0, 1), 0);
        due("weight", v.member(7, 0), 2);
        due("other weight", v.member(6, 0), 1);
        due("shares stay", v.secret(0, 2), 8);
        dueThrow(BOUNDS, () -> v.setWeight(-1, 1));
        dueThrow(BOUNDS, () -> v.setWeight(8, 1));
        dueThrow(BOUNDS, () -> v.setWeight(MAX, 4));
        dueThrow(ARGUMENT, () -> v.setWeight(0, 4));
        dueThrow(ARGUMENT, () -> v.setWeight(0, -1));
        dueThrow(ARGUMENT, () -> v.setWeight(7, MIN));
        due("unchanged", v.member(7, 0), 2);
        due("no event", v.event(0), 100);
    }

    private static void setPresent() {
        SecretVault v = new SecretVault();
        due("before", v.setPresent(0, false), true);
        due("before", v.setPresent(0, false), false);
        due("before", v.setPresent(7, true), true);
        due("present", v.member(0, 1), 0);
        due("other", v.member(1, 1), 1);
        due("shares", v.put(0, 1, 1), 7);
        due("before", v.setPresent(0, true), false);
        due("present", v.member(0, 1), 1);
        dueThrow(BOUNDS, () -> v.setPresent(-1, true));
        dueThrow(BOUNDS, () -> v.setPresent(8, false));
        dueThrow(BOUNDS, () -> v.setPresent(32, false));
        dueThrow(BOUNDS, () -> v.setPresent(MIN, false));
        due("present", v.member(0, 1), 1);
    }

    private static void member() {
        SecretVault v = vault();
        v.setWeight(0, 3);
        v.put(1, 5, 2);
        due("shares of two secrets", v.member(0, 2), 4);
        due("shares of two secrets", v.member(1, 2), 2);
        due("none bad", v.member(0, 3), 0);
        v.setShare(0, 1, (first(1) + 1) % 1019);
        due("a wrong one", v.member(0, 3), 1);
        makeStale(v, 1, 0);
        due("three stale ones more", v.member(0, 3), 4);
        due("all count", v.member(0, 2), 4);
        due("weight", v.member(0, 0), 3);
        v.remove(1);
        due("after remove", v.member(0, 2), 1);
        due("after remove", v.member(0, 3), 1);
        v.setWeight(0, 0);
        due("at places that are no longer used", v.member(0, 2), 1);
        dueThrow(BOUNDS, () -> v.member(8, 0));
        dueThrow(BOUNDS, () -> v.member(-1, 4));
        dueThrow(ARGUMENT, () -> v.member(0, 4));
        dueThrow(ARGUMENT, () -> v.member(7, -1));
    }

    // ---- 7 to 17: secrets

    private static void put() {
        SecretVault v = new SecretVault();
        due("shares", v.put(0, 123, 3), 8);
        for (int m = 0; m < 8; m++) {
            due("value", v.share(0, 3 * m + 1, 0), first(3 * m + 1));
            due("epoch", v.share(0, 3 * m + 1, 1), 1);
            due("state", v.share(0, 3 * m + 1, 2), 0);
            int unused = 3 * m + 2;
            dueThrow(NONE, () -> v.share(0, unused, 0));
        }
        due("commitment", v.commitment(0, 0), power(4, 123, 2039));
        due("commitment", v.commitment(0, 1), power(4, 534, 2039));
        due("commitment", v.commitment(0, 2), power(4, 823, 2039));
        due("event", v.event(0), 100);
        policy(v, 0, "0");
        v.refresh(0);
        v.setWeight(2, 3);
        v.setWeight(3, 0);
        v.setPresent(4, false);
        int z = v.seed(77);
        v.seed(77);
        due("shares", v.put(0, 1018, 1), 8);
        due("with the threshold 1 nothing is drawn", v.seed(z), 77);
        due("epoch of a new secret", v.secret(0, 1), 1);
        due("threshold", v.secret(0, 0), 1);
        due("no policy", v.secret(0, 6), 0);
        due("value", v.share(0, 8, 0), 1018);
        due("value", v.share(0, 9, 0), 1018);
        dueThrow(NONE, () -> v.share(0, 10, 0));
        dueThrow(NONE, () -> v.share(0, 13, 0));
        due("value 0", v.put(3, 0, 8), 8);
        due("event", v.event(0), 103);
        SecretVault full = fullVault();
        for (int x = 1; x <= 24; x++) {
            due("value", full.share(0, x, 0), first(x));
        }
        for (int m = 0; m < 8; m++) {
            full.setWeight(m, 1);
        }
        due("earlier shares are removed", full.put(0, 5, 1), 8);
        dueThrow(NONE, () -> full.share(0, 24, 0));
        putRefusals();
    }

    private static void putRefusals() {
        SecretVault v = vault();
        dueThrow(BOUNDS, () -> v.put(4, 1, 1));
        dueThrow(BOUNDS, () -> v.put(-1, 1019, 9));
        dueThrow(ARGUMENT, () -> v.put(0, 1019, 1));
        dueThrow(ARGUMENT, () -> v.put(0, -1, 1));
        dueThrow(ARGUMENT, () -> v.put(0, 1, 0));
        dueThrow(ARGUMENT, () -> v.put(0, 1, 9));
        for (int m = 0; m < 7; m++) {
            v.setPresent(m, false);
        }
        dueThrow(STATE, () -> v.put(0, 1, 2));
        dueThrow(ARGUMENT, () -> v.put(0, 1019, 2));
        due("unchanged", v.secret(0, 2), 8);
        due("nothing drawn", v.draw(), third());
        due("enough", v.put(0, 1, 1), 1);
        v.setWeight(7, 0);
        dueThrow(STATE, () -> v.put(1, 1, 1));
        v.setWeight(7, 3);
        due("three", v.put(1, 1, 3), 3);
    }

    private static int third() {
        SecretVault v = new SecretVault();
        v.draw();
        v.draw();
        return v.draw();
    }

    private static void remove() {
        SecretVault v = vault();
        v.refresh(0);
        policy(v, 0, "0");
        due("epoch", v.remove(0), 2);
        due("event", v.event(0), 200);
        dueThrow(NONE, () -> v.remove(0));
        dueThrow(NONE, () -> v.secret(0, 2));
        dueThrow(NONE, () -> v.fulfils(0, 0));
        dueThrow(BOUNDS, () -> v.remove(4));
        dueThrow(BOUNDS, () -> v.remove(-1));
        due("no event", v.event(0), 200);
        v.put(0, 5, 1);
        due("new epoch", v.remove(0), 1);
    }

    private static void refresh() {
        SecretVault v = vault();
        v.setPresent(3, false);
        v.setShare(0, 4, 7);
        v.seed(1);
        due("renewed", v.refresh(0), 7);
        due("event", v.event(0), 300);
        due("epoch", v.secret(0, 1), 2);
        for (int m = 0; m < 8; m++) {
            int x = 3 * m + 1;
            int before = m == 1 ? 7 : first(x);
            due("value", v.share(0, x, 0), m == 3 ? before : (before + 534 * x + 823 * x * x) % 1019);
            due("epoch", v.share(0, x, 1), m == 3 ? 1 : 2);
            due("state", v.share(0, x, 2), m == 3 ? 1 : m == 1 ? 2 : 0);
        }
        due("commitment", v.commitment(0, 0), power(4, 123, 2039));
        due("commitment", v.commitment(0, 1), power(4, 534, 2039) * power(4, 534, 2039) % 2039);
        due("commitment", v.commitment(0, 2), power(4, 823, 2039) * power(4, 823, 2039) % 2039);
        due("secret", v.open(0, 253), 123);
        v.setPresent(3, true);
        due("stale shares stay", v.refresh(0), 7);
        due("stale share", v.share(0, 10, 0), first(10));
        v.setWeight(0, 0);
        due("unused places too", v.refresh(0), 7);
        v.put(1, 9, 1);
        v.seed(3);
        due("threshold 1", v.refresh(1), 7);
        due("nothing drawn", v.seed(3), 3);
        due("value", v.share(1, 4, 0), 9);
        importText(v, 1, "1:9@3#7");
        due("greater epoch is stale", v.refresh(1), 7);
        due("then it fits", v.share(1, 1, 2), 0);
        due("and is refreshed", v.refresh(1), 8);
        SecretVault full = fullVault();
        due("all places", full.refresh(0), 24);
        due("all good", full.secret(0, 3), 24);
        due("the commitments behind the threshold", full.reshare(0, 255, 2), 24);
        full.refresh(0);
        due("all good", full.secret(0, 3), 24);
        dueThrow(NONE, () -> v.refresh(2));
        dueThrow(BOUNDS, () -> v.refresh(4));
        dueThrow(BOUNDS, () -> v.refresh(-1));
    }

    private static void reshare() {
        SecretVault v = vault();
        policy(v, 0, "0|1");
        v.setWeight(5, 2);
        v.setPresent(6, false);
        v.seed(1);
        due("shares", v.reshare(0, 7, 2), 8);
        due("event", v.event(0), 400);
        due("threshold", v.secret(0, 0), 2);
        due("epoch", v.secret(0, 1), 2);
        due("policy stays", v.secret(0, 6), 1);
        due("all good", v.secret(0, 3), 8);
        due("value", v.share(0, 17, 0), (123 + 534 * 17) % 1019);
        due("commitment", v.commitment(0, 1), power(4, 534, 2039));
        dueThrow(NONE, () -> v.commitment(0, 2));
        dueThrow(NONE, () -> v.share(0, 19, 0));
        due("secret", v.open(0, 3), 123);
        due("a success leaves no report", v.levels(), 0);
        reshareRefusals();
    }

    private static void reshareRefusals() {
        SecretVault v = vault();
        dueThrow(BOUNDS, () -> v.reshare(4, 256, 0));
        dueThrow(BOUNDS, () -> v.reshare(-1, 7, 1));
        dueThrow(ARGUMENT, () -> v.reshare(0, 256, 1));
        dueThrow(ARGUMENT, () -> v.reshare(0, -1, 1));
        dueThrow(ARGUMENT, () -> v.reshare(0, 7, 0));
        dueThrow(ARGUMENT, () -> v.reshare(0, 7, 9));
        dueThrow(ARGUMENT, () -> v.reshare(1, 7, 9));
        dueThrow(NONE, () -> v.reshare(1, 7, 3));
        dueThrow(UNSUPPORTED, () -> v.reshare(0, 3, 3));
        due("report", report(v), "1:0 3:1");
        due("no event", v.event(0), 100);
        for (int m = 3; m < 8; m++) {
            v.setPresent(m, false);
        }
        int z = v.seed(9);
        v.seed(9);
        dueThrow(STATE, () -> v.reshare(0, 7, 4));
        due("nothing drawn", v.seed(z), 9);
        due("unchanged", v.secret(0, 2), 8);
        due("report stays", report(v), "1:0 3:1");
        dueThrow(UNSUPPORTED, () -> v.reshare(0, 1, 4));
        due("report", report(v), "1:0 3:2");
        due("enough", v.reshare(0, 255, 3), 3);
    }

    private static void enroll() {
        SecretVault v = vault();
        v.setWeight(0, 3);
        due("given", v.enroll(0, 14, 0), 2);
        due("event", v.event(0), 500);
        due("value", v.share(0, 2, 0), first(2));
        due("value", v.share(0, 3, 0), first(3));
        due("good", v.secret(0, 3), 10);
        v.setShare(0, 1, 0);
        v.setPresent(0, false);
        due("a wrong share of an absent member", v.enroll(0, 255, 0), 1);
        due("value", v.share(0, 1, 0), first(1));
        v.setPresent(0, true);
        makeStale(v, 0, 7);
        due("a stale share", v.enroll(0, 7, 7), 1);
        due("epoch", v.share(0, 22, 1), 2);
        due("good", v.share(0, 22, 2), 0);
        due("event", v.event(0), 507);
        v.setWeight(4, 0);
        v.setShare(0, 13, (v.share(0, 13, 0) + 1) % 1019);
        due("no used place", v.enroll(0, 7, 4), 0);
        due("the share stays", v.share(0, 13, 2), 2);
        due("event", v.event(0), 504);
        v.put(2, 4, 1);
        v.enroll(2, 255, 6);
        due("event", v.event(0), 526);
        due("no report", v.levels(), 0);
        dueThrow(BOUNDS, () -> v.enroll(4, 256, 0));
        dueThrow(BOUNDS, () -> v.enroll(0, 256, 8));
        dueThrow(BOUNDS, () -> v.enroll(0, 1, -1));
        dueThrow(ARGUMENT, () -> v.enroll(1, 256, 0));
        dueThrow(ARGUMENT, () -> v.enroll(0, -1, 0));
        dueThrow(NONE, () -> v.enroll(1, 255, 0));
        dueThrow(UNSUPPORTED, () -> v.enroll(0, 6, 0));
        due("report", report(v), "1:0 3:1");
        policy(v, 2, "0");
        dueThrow(UNSUPPORTED, () -> v.enroll(2, 6, 0));
        due("report", report(v), "1:2 2:6");
        due("no event", v.event(0), 526);
    }

    private static void expel() {
        SecretVault v = new SecretVault();
        v.setWeight(2, 3);
        v.put(1, 9, 2);
        v.setWeight(2, 1);
        due("removed", v.expel(1, 2), 3);
        due("event", v.event(0), 612);
        due("left", v.secret(1, 2), 7);
        dueThrow(NONE, () -> v.share(1, 7, 0));
        dueThrow(NONE, () -> v.share(1, 9, 0));
        due("neighbours", v.share(1, 4, 2) + v.share(1, 10, 2), 0);
        due("none left", v.expel(1, 2), 0);
        due("one", v.expel(1, 7), 1);
        due("event", v.event(0), 617);
        dueThrow(BOUNDS, () -> v.expel(4, 0));
        dueThrow(BOUNDS, () -> v.expel(0, 8));
        dueThrow(BOUNDS, () -> v.expel(0, -1));
        dueThrow(NONE, () -> v.expel(0, 0));
    }

    private static void open() {
        SecretVault v = vault();
        due("exactly enough", v.open(0, 7), 123);
        due("event", v.event(0), 700);
        due("others", v.open(0, 128 + 64 + 1), 123);
        dueThrow(UNSUPPORTED, () -> v.open(0, 3));
        due("report", report(v), "1:0 3:1");
        dueThrow(UNSUPPORTED, () -> v.open(0, 0));
        due("report", report(v), "1:0 3:3");
        v.setPresent(1, false);
        dueThrow(UNSUPPORTED, () -> v.open(0, 7));
        v.setPresent(1, true);
        v.setShare(0, 1, 0);
        dueThrow(UNSUPPORTED, () -> v.open(0, 7));
        due("report", report(v), "1:0 3:1 5:1");
        due("wrong shares are left out", v.open(0, 15), 123);
        policy(v, 0, "7");
        dueThrow(UNSUPPORTED, () -> v.open(0, 127));
        due("report", report(v), "1:0 2:127");
        dueThrow(UNSUPPORTED, () -> v.open(0, 3));
        due("if both fail", report(v), "1:0 2:3");
        v.setPresent(7, false);
        dueThrow(UNSUPPORTED, () -> v.open(0, 255));
        due("absent members do not fulfil", report(v), "1:0 2:127");
        v.setPresent(7, true);
        due("fulfilled", v.open(0, 255), 123);
        due("a success leaves the report", report(v), "1:0 2:127");
        v.put(3, 1018, 8);
        due("greatest threshold", v.open(3, 255), 1018);
        due("event", v.event(0), 703);
        due("the last places", fullVault().open(0, 128), 123);
        v.put(2, 0, 1);
        due("smallest threshold", v.open(2, 64), 0);
        dueThrow(BOUNDS, () -> v.open(4, 256));
        dueThrow(BOUNDS, () -> v.open(-1, 1));
        dueThrow(ARGUMENT, () -> v.open(1, 256));
        dueThrow(ARGUMENT, () -> v.open(0, -1));
        dueThrow(NONE, () -> v.open(1, 255));
    }

    private static void combine() {
        SecretVault v = vault();
        due("all", v.combine(0, 255), 123);
        v.setPresent(5, false);
        due("absent ones too", v.combine(0, 224), 123);
        v.setShare(0, 1, 500);
        due("wrong ones too", v.combine(0, 7), 863);
        due("lowest places only", v.combine(0, 254), 123);
        makeStale(v, 0, 3);
        due("the lowest are stale, wrong or renewed", v.combine(0, 14) != 123, true);
        dueThrow(STATE, () -> v.combine(0, 3));
        dueThrow(STATE, () -> v.combine(0, 0));
        due("no report", v.levels(), 0);
        due("no event", v.event(0), 300);
        policy(v, 0, "0&1&2&3&4&5&6&7");
        due("the policy does not matter", v.combine(0, 248 - 32 - 8 + 4), 123);
        due("the last places", fullVault().combine(0, 128), 123);
        dueThrow(BOUNDS, () -> v.combine(4, 256));
        dueThrow(ARGUMENT, () -> v.combine(1, 256));
        dueThrow(ARGUMENT, () -> v.combine(0, MIN));
        dueThrow(NONE, () -> v.combine(1, 0));
    }

    private static void agree() {
        SecretVault v = vault();
        due("all", v.agree(0, 255), true);
        v.setShare(0, 1, 500);
        due("one is wrong", v.agree(0, 255), false);
        due("one is wrong of four", v.agree(0, 15), false);
        due("at most k", v.agree(0, 7), true);
        due("without it", v.agree(0, 254), true);
        v.setShare(0, 4, (first(4) + 1) % 1019);
        due("wrong ones that do not agree", v.agree(0, 15), false);
        for (int x = 1; x <= 22; x += 3) {
            v.setShare(0, x, x);
        }
        due("all are wrong, but agree", v.agree(0, 255), true);
        v.seed(1);
        v.put(0, 123, 3);
        SecretVault full = fullVault();
        due("all places", full.agree(0, 255), true);
        full.setShare(0, 24, (first(24) + 1) % 1019);
        due("the last place", full.agree(0, 255), false);
        due("none", v.agree(0, 0), true);
        v.setShare(0, 1, first(1));
        v.setShare(0, 22, 0);
        v.setPresent(7, false);
        due("the last one, absent", v.agree(0, 143), false);
        v.put(1, 9, 1);
        due("equal values", v.agree(1, 255), true);
        v.setShare(1, 19, 8);
        due("another value", v.agree(1, 255), false);
        due("of another member", v.agree(1, 191), true);
        dueThrow(BOUNDS, () -> v.agree(4, 256));
        dueThrow(ARGUMENT, () -> v.agree(2, 256));
        dueThrow(ARGUMENT, () -> v.agree(0, -256));
        dueThrow(NONE, () -> v.agree(2, 255));
    }

    private static void secret() {
        SecretVault v = vault();
        makeStale(v, 0, 2);
        v.setShare(0, 1, (v.share(0, 1, 0) + 1) % 1019);
        v.setShare(0, 7, 0);
        int[] want = {3, 2, 8, 6, 1, 1, 0};
        for (int what = 0; what < 7; what++) {
            due("what " + what, v.secret(0, what), want[what]);
        }
        SecretVault full = fullVault();
        makeStale(full, 0, 0);
        makeStale(full, 0, 7);
        due("stale ones at both ends", full.secret(0, 4), 6);
        SecretVault spoiled = fullVault();
        spoiled.setShare(0, 1, (first(1) + 1) % 1019);
        spoiled.setShare(0, 24, (first(24) + 1) % 1019);
        due("wrong ones at both ends", spoiled.secret(0, 5), 2);
        policy(v, 0, "0");
        due("policy", v.secret(0, 6), 1);
        dueThrow(BOUNDS, () -> v.secret(4, 7));
        dueThrow(BOUNDS, () -> v.secret(-1, 0));
        dueThrow(ARGUMENT, () -> v.secret(1, 7));
        dueThrow(ARGUMENT, () -> v.secret(0, -1));
        dueThrow(NONE, () -> v.secret(1, 6));
    }

    private static void commitment() {
        SecretVault v = vault();
        due("first", v.commitment(0, 0), 572);
        due("last", v.commitment(0, 2), 1167);
        dueThrow(NONE, () -> v.commitment(0, 3));
        dueThrow(NONE, () -> v.commitment(0, -1));
        dueThrow(NONE, () -> v.commitment(0, MAX));
        dueThrow(NONE, () -> v.commitment(1, 0));
        dueThrow(BOUNDS, () -> v.commitment(4, 0));
        dueThrow(BOUNDS, () -> v.commitment(-1, -1));
        v.put(1, 0, 8);
        due("4 to the power of 0", v.commitment(1, 0), 1);
        due("exists", v.commitment(1, 7) > 0, true);
        dueThrow(NONE, () -> v.commitment(1, 8));
    }

    // ---- 18 to 22: shares

    private static void share() {
        SecretVault v = vault();
        due("value", v.share(0, 22, 0), first(22));
        due("epoch", v.share(0, 22, 1), 1);
        due("good", v.share(0, 22, 2), 0);
        v.setShare(0, 22, (first(22) + 1) % 1019);
        due("wrong", v.share(0, 22, 2), 2);
        makeStale(v, 0, 7);
        due("stale before wrong", v.share(0, 22, 2), 1);
        due("its epoch", v.share(0, 22, 1), 1);
        importText(v, 0, "22:5@9999#" + (7 * 22 + 15 + 9999) % 10);
        due("a greater epoch is stale", v.share(0, 22, 2), 1);
        dueThrow(BOUNDS, () -> v.share(4, 1, 0));
        dueThrow(BOUNDS, () -> v.share(0, 0, 3));
        dueThrow(BOUNDS, () -> v.share(0, 25, 0));
        dueThrow(BOUNDS, () -> v.share(0, MIN, 0));
        dueThrow(ARGUMENT, () -> v.share(1, 1, 3));
        dueThrow(ARGUMENT, () -> v.share(0, 2, -1));
        dueThrow(NONE, () -> v.share(0, 2, 0));
        dueThrow(NONE, () -> v.share(0, 24, 2));
        dueThrow(NONE, () -> v.share(1, 1, 0));
    }

    private static void setShare() {
        SecretVault v = vault();
        due("before", v.setShare(0, 1, 1018), 461);
        due("before", v.setShare(0, 1, 0), 1018);
        due("value", v.share(0, 1, 0), 0);
        due("epoch stays", v.share(0, 1, 1), 1);
        due("before", v.setShare(0, 1, 461), 0);
        due("good again", v.share(0, 1, 2), 0);
        dueThrow(BOUNDS, () -> v.setShare(4, 1, 1019));
        dueThrow(BOUNDS, () -> v.setShare(0, 25, 0));
        dueThrow(BOUNDS, () -> v.setShare(0, 0, 0));
        dueThrow(ARGUMENT, () -> v.setShare(0, 2, 1019));
        dueThrow(ARGUMENT, () -> v.setShare(1, 1, -1));
        dueThrow(NONE, () -> v.setShare(0, 2, 5));
        dueThrow(NONE, () -> v.setShare(1, 1, 5));
        due("unchanged", v.share(0, 1, 0), 461);
        due("no share was made", v.secret(0, 2), 8);
    }

    private static void shareText() {
        SecretVault v = vault();
        due("text", shareTextOf(v, 0, 1), "1:461@1#1");
        due("text", shareTextOf(v, 0, 22), "22:565@1#0");
        v.setShare(0, 4, 0);
        due("value 0", shareTextOf(v, 0, 4), "4:0@1#9");
        importText(v, 0, "24:1018@9999#1");
        due("longest", shareTextOf(v, 0, 24), "24:1018@9999#1");
        due("length", v.shareText(0, 24, -1), 14);
        dueThrow(NONE, () -> v.shareText(0, 24, 14));
        dueThrow(NONE, () -> v.shareText(0, 1, 9));
        dueThrow(NONE, () -> v.shareText(0, 1, MAX));
        dueThrow(NONE, () -> v.shareText(0, 2, -1));
        dueThrow(NONE, () -> v.shareText(1, 1, 0));
        dueThrow(BOUNDS, () -> v.shareText(0, 2, -2));
        dueThrow(BOUNDS, () -> v.shareText(1, 1, MIN));
        dueThrow(BOUNDS, () -> v.shareText(4, 1, 0));
        dueThrow(BOUNDS, () -> v.shareText(0, 25, 0));
        dueThrow(BOUNDS, () -> v.shareText(0, 0, 0));
    }

    private static void importShare() {
        SecretVault v = vault();
        due("place", importText(v, 0, "2:5@1#0"), 2);
        due("value", v.share(0, 2, 0), 5);
        due("wrong", v.share(0, 2, 2), 2);
        due("in place of an earlier one", importText(v, 0, "1:0@7#4"), 1);
        due("value", v.share(0, 1, 0), 0);
        due("epoch", v.share(0, 1, 1), 7);
        due("good", importText(v, 0, "1:461@1#1") + v.share(0, 1, 2), 1);
        due("no event", v.event(0), 100);
        due("buffer", v.append(0), 0);
        String[] good = {"24:1018@9999#1", "1:0@1#8", "10:10@10#0", "9:999@999#9"};
        for (String text : good) {
            due(text, importText(v, 0, text), Integer.parseInt(text.substring(0, text.indexOf(':'))));
            due("error position", v.errorPosition(), -1);
        }
        importErrors(v);
        type(v, "1:1@1#1");
        dueThrow(NONE, () -> v.importShare(1));
        dueThrow(BOUNDS, () -> v.importShare(4));
        dueThrow(BOUNDS, () -> v.importShare(-1));
        due("buffer stays", v.append(0), 7);
        due("error position stays", v.errorPosition(), 0);
        due("then it is read", v.importShare(0), 1);
    }

    private static void importErrors(SecretVault v) {
        Object[][] bad = {
            {"x", 0}, {":", 0}, {"0:1@1#1", 0}, {"00:1@1#1", 0}, {"01:1@1#1", 0}, {"25:1@1#0", 0}, {"25", 0},
            {"12345:1@1#1", 0}, {"1", 1}, {"1x", 1}, {"24", 2}, {"1:", 2}, {"1:x", 2}, {"1:1019@1#5", 2},
            {"1:9999", 2}, {"1:01@1#1", 3}, {"1:00@1#8", 3}, {"1:0", 3}, {"1:10180@1#1", 6}, {"1:5", 3},
            {"1:5#", 3}, {"1:5@", 4}, {"1:5@x", 4}, {"1:5@0#2", 4}, {"1:5@0", 4}, {"1:5@9999", 8},
            {"1:5@10000#2", 8}, {"1:5@1", 5}, {"1:5@1:", 5}, {"1:5@1#", 6}, {"1:5@1#4", 6}, {"1:5@1#x", 6},
            {"1:5@1#33", 7}, {"1:5@1#3x", 7}, {"1:5@1#43", 6}, {"-1:5@1#3", 0}, {"", 0},
        };
        int before = v.secret(0, 2);
        for (Object[] row : bad) {
            type(v, (String) row[0]);
            dueThrow(ARGUMENT, () -> v.importShare(0));
            due("error position of " + row[0], v.errorPosition(), (Integer) row[1]);
            due("buffer", v.append(0), 0);
        }
        due("no share was made", v.secret(0, 2), before);
    }

    private static void bad() {
        SecretVault v = vault();
        dueThrow(NONE, () -> v.bad(0, 0));
        makeStale(v, 0, 6);
        v.setShare(0, 4, (v.share(0, 4, 0) + 1) % 1019);
        importText(v, 0, "24:0@1#9");
        due("wrong", v.bad(0, 0), 4);
        due("stale", v.bad(0, 1), 19);
        due("last place", v.bad(0, 2), 24);
        v.setShare(0, 1, (v.share(0, 1, 0) + 1) % 1019);
        due("first place", v.bad(0, 0), 1);
        due("then the others", v.bad(0, 1), 4);
        v.expel(0, 0);
        dueThrow(NONE, () -> v.bad(0, 3));
        dueThrow(NONE, () -> v.bad(0, -1));
        dueThrow(NONE, () -> v.bad(0, MAX));
        dueThrow(NONE, () -> v.bad(1, 0));
        dueThrow(BOUNDS, () -> v.bad(4, 0));
        dueThrow(BOUNDS, () -> v.bad(-1, -1));
    }

    // ---- 23 to 28: policies

    private static void append() {
        SecretVault v = vault();
        due("four", v.append('0' << 24 | '|' << 16 | '1' << 8 | '|'), 4);
        due("zeros are skipped", v.append('2' << 16), 5);
        due("nothing", v.append(0), 5);
        due("none", v.setPolicy(0), false);
        due("order", policyTextOf(v, 0), "0|1|2");
        due("limits", v.append(33 << 24 | 126), 2);
        dueThrow(ARGUMENT, () -> v.append(32));
        dueThrow(ARGUMENT, () -> v.append(127 << 16));
        dueThrow(ARGUMENT, () -> v.append('0' << 24 | 200));
        dueThrow(ARGUMENT, () -> v.append(-1));
        dueThrow(ARGUMENT, () -> v.append(MIN));
        dueThrow(ARGUMENT, () -> v.append(1));
        due("unchanged", v.append(0), 2);
        for (int i = 0; i < 9; i++) {
            v.append(0x30303030);
        }
        dueThrow(STATE, () -> v.append(0x30303000));
        dueThrow(ARGUMENT, () -> v.append(0x30303020));
        due("unchanged", v.append(0), 38);
        due("full", v.append(0x30003000), 40);
        due("nothing", v.append(0), 40);
        dueThrow(STATE, () -> v.append(48));
    }

    private static void setPolicy() {
        SecretVault v = vault();
        due("before", policy(v, 0, "1&2"), false);
        due("buffer", v.append(0), 0);
        due("before", policy(v, 0, "3"), true);
        due("text", policyTextOf(v, 0), "3");
        type(v, "3|");
        dueThrow(ARGUMENT, () -> v.setPolicy(0));
        due("buffer", v.append(0), 0);
        due("the policy stays", policyTextOf(v, 0), "3");
        due("before", v.setPolicy(0), true);
        due("no policy", v.secret(0, 6), 0);
        due("before", v.setPolicy(0), false);
        due("error position", v.errorPosition(), -1);
        type(v, "x");
        dueThrow(NONE, () -> v.setPolicy(1));
        dueThrow(BOUNDS, () -> v.setPolicy(4));
        dueThrow(BOUNDS, () -> v.setPolicy(-1));
        due("buffer stays", v.append(0), 1);
        due("error position stays", v.errorPosition(), -1);
        dueThrow(ARGUMENT, () -> v.setPolicy(0));
        String[] good = {
            "0", "7", "0|1|2", "0&1&2", "1of(0)", "9of(0)", "8of(1,2|3,4&5)", "((0))", "(0|1)&2of(3,(4),5)",
            "(((((((((((((((((((7)))))))))))))))))))", "1of(1of(1of(1of(1of(1of(1of(0)))))))",
        };
        for (String text : good) {
            policy(v, 0, text);
            due(text, v.errorPosition(), -1);
        }
    }

    private static void errorPosition() {
        SecretVault v = vault();
        Object[][] bad = {
            {"8", 1}, {"9", 1}, {"88", 1}, {"8)", 1}, {"0o", 1}, {"1o", 2}, {"1ox", 2}, {"1of", 3}, {"1of)", 3},
            {"1of1", 3}, {"1of(", 4}, {"1of()", 4}, {"1of(,", 4}, {"1of(0", 5}, {"1of(0,", 6}, {"1of(0,)", 6},
            {"1of(0))", 6}, {"(", 1}, {"()", 1}, {"(0", 2}, {"(0,", 2}, {"0)", 1}, {"0,1", 1}, {"01", 1}, {"0(", 1},
            {"|", 0}, {"&", 0}, {")", 0}, {",", 0}, {"o", 0}, {"x", 0}, {"0|", 2}, {"0&", 2}, {"0||1", 2}, {"0&|1", 2},
            {"1of((0,1))", 6}, {"(1of(0)", 7}, {"(1of(0),1)", 7}, {"1of(0)1", 6}, {"12of(0)", 1}, {"0|8", 3},
            {"8o", 2}, {"9of(1", 5}, {"1of(0|1,2&)", 10}, {"((((((((((((((((((((((((((((((((((((((((", 40},
            {"1Of(0)", 1}, {"1of(1of(0,1)", 12}, {"0~", 1},
        };
        due("no text", v.errorPosition(), -1);
        for (Object[] row : bad) {
            type(v, (String) row[0]);
            dueThrow(ARGUMENT, () -> v.setPolicy(0));
            due("error position of " + row[0], v.errorPosition(), (Integer) row[1]);
        }
        due("no policy", v.secret(0, 6), 0);
        type(v, "0");
        due("typing does not change it", v.errorPosition(), 1);
        v.setPolicy(0);
        due("no error", v.errorPosition(), -1);
        type(v, "1:");
        dueThrow(ARGUMENT, () -> v.importShare(0));
        due("of importShare", v.errorPosition(), 2);
        v.setPolicy(0);
        due("an empty buffer", v.errorPosition(), -1);
    }

    private static void fulfils() {
        SecretVault v = vault();
        due("no policy", v.fulfils(0, 0), true);
        policy(v, 0, "0&(1|2)|2of(3,4&5,6)");
        for (int set = 0; set < 256; set++) {
            boolean[] in = new boolean[8];
            for (int m = 0; m < 8; m++) {
                in[m] = (set & 1 << m) != 0;
            }
            int met = (in[3] ? 1 : 0) + (in[4] && in[5] ? 1 : 0) + (in[6] ? 1 : 0);
            due("set " + set, v.fulfils(0, set), in[0] && (in[1] || in[2]) || met >= 2);
        }
        policy(v, 0, "3of(0,1)");
        due("more than there are", v.fulfils(0, 255), false);
        policy(v, 0, "9of(0,0,0,0,0,0,0,0,0)");
        due("nine of nine", v.fulfils(0, 1), true);
        policy(v, 0, "9of(0,0,0,0,0,0,0,0)");
        due("nine of eight", v.fulfils(0, 255), false);
        policy(v, 0, "2of(0,0|1,2)");
        due("a member twice", v.fulfils(0, 1), true);
        v.setPresent(0, false);
        due("an absent member", v.fulfils(0, 1), true);
        policy(v, 0, "2of(1of(0,1),2of(2,3),(4|5)&6)");
        due("nested", v.fulfils(0, 2 + 16 + 64), true);
        due("nested", v.fulfils(0, 4 + 16 + 64), false);
        due("no report", v.levels(), 0);
        dueThrow(BOUNDS, () -> v.fulfils(4, 256));
        dueThrow(ARGUMENT, () -> v.fulfils(1, 256));
        dueThrow(ARGUMENT, () -> v.fulfils(0, -1));
        dueThrow(NONE, () -> v.fulfils(1, 0));
    }

    private static void policyText() {
        SecretVault v = vault();
        String[][] texts = {
            {"0", "0"}, {"(0)", "0"}, {"((0|1))", "0|1"}, {"(0|1)|2", "0|1|2"}, {"(0|1)&2", "(0|1)&2"},
            {"2&(0|1)", "2&(0|1)"}, {"((0|1))&2", "(0|1)&2"}, {"2&((0|1))", "2&(0|1)"}, {"(0&1)&2", "0&1&2"},
            {"(0&1)|2", "0&1|2"}, {"((0|1)|2)&3", "(0|1|2)&3"}, {"((0|1)&2)&3", "(0|1)&2&3"},
            {"((0|1)&2)|3", "(0|1)&2|3"}, {"((0&1)|2)", "0&1|2"}, {"1of(0)", "1of(0)"}, {"(1of(0))", "1of(0)"},
            {"2of((0|1),(2),((3&4)))", "2of(0|1,2,3&4)"}, {"(2of(0,1))&3", "2of(0,1)&3"},
            {"2of(0|1,2)&3", "2of(0|1,2)&3"}, {"1of(((0|1)&2))", "1of((0|1)&2)"}, {"(1of(0|1))&(2|3)", "1of(0|1)&(2|3)"},
            {"2&((0|1)|3)&(4)", "2&(0|1|3)&4"}, {"2&((0|1)&3)&(4)", "2&(0|1)&3&4"}, {"(0|(1|(2|3)))", "0|1|2|3"},
            {"(((0|1)))&(((2|3)))", "(0|1)&(2|3)"}, {"0|1&(2)", "0|1&2"}, {"0&0|0", "0&0|0"},
        };
        for (String[] row : texts) {
            SecretVault w = vault();
            policy(w, 0, row[0]);
            due("text of " + row[0], policyTextOf(w, 0), row[1]);
        }
        policy(v, 0, "0&0|0");
        due("length", v.policyText(0, -1), 5);
        due("last", v.policyText(0, 4), '0');
        dueThrow(NONE, () -> v.policyText(0, 5));
        dueThrow(NONE, () -> v.policyText(0, MAX));
        dueThrow(NONE, () -> v.policyText(1, 0));
        dueThrow(BOUNDS, () -> v.policyText(1, -2));
        dueThrow(BOUNDS, () -> v.policyText(4, 0));
        dueThrow(BOUNDS, () -> v.policyText(0, MIN));
        v.setPolicy(0);
        dueThrow(NONE, () -> v.policyText(0, -1));
    }

    private static void policy() {
        SecretVault v = vault();
        Object[][] rows = {
            {"0", 1, 0, 1}, {"7|7&7", 3, 0, 128}, {"1of(0)", 2, 1, 1}, {"0&(1|2)", 3, 0, 7},
            {"2of(0,1,(2|3)&4)", 6, 1, 31}, {"1of(1of(5),2)|1of(3)", 6, 2, 44}, {"(1of(1of(1of(6)),2))", 5, 3, 68},
            {"((1of(0)))&1of(1)", 4, 1, 3},
        };
        for (Object[] row : rows) {
            policy(v, 0, (String) row[0]);
            for (int what = 0; what < 3; what++) {
                due(row[0] + " what " + what, v.policy(0, what), (Integer) row[what + 1]);
            }
        }
        dueThrow(BOUNDS, () -> v.policy(4, 3));
        dueThrow(ARGUMENT, () -> v.policy(1, 3));
        dueThrow(ARGUMENT, () -> v.policy(0, -1));
        dueThrow(NONE, () -> v.policy(1, 0));
        v.setPolicy(0);
        dueThrow(NONE, () -> v.policy(0, 2));
    }

    // ---- 29 to 32: groups

    private static void groups() {
        SecretVault v = vault();
        due("at least three of eight", v.groups(0), 256 - 1 - 8 - 28);
        v.setPresent(0, false);
        due("at least three of seven, the absent one in or out", v.groups(0), 2 * (128 - 1 - 7 - 21));
        policy(v, 0, "0");
        due("never", v.groups(0), 0);
        policy(v, 0, "1");
        due("at least two others of six", v.groups(0), 2 * (64 - 1 - 6));
        v.setShare(0, 4, (v.share(0, 4, 0) + 1) % 1019);
        due("at least three others of six", v.groups(0), 2 * (64 - 1 - 6 - 15));
        v.put(1, 0, 1);
        v.setWeight(7, 0);
        due("absent members and an empty set", v.groups(1), 256 - 2);
        due("no report", v.levels(), 0);
        due("no event", v.event(0), 101);
        dueThrow(NONE, () -> v.groups(2));
        dueThrow(BOUNDS, () -> v.groups(4));
        dueThrow(BOUNDS, () -> v.groups(-1));
    }

    private static void smallest() {
        SecretVault v = vault();
        List<Integer> want = new ArrayList<>();
        for (int set = 0; set < 256; set++) {
            if (Integer.bitCount(set) == 3) {
                want.add(set);
            }
        }
        for (int i = 0; i < want.size(); i++) {
            due("index " + i, v.smallest(0, i), want.get(i));
        }
        dueThrow(NONE, () -> v.smallest(0, 56));
        dueThrow(NONE, () -> v.smallest(0, -1));
        policy(v, 0, "0&(7|6&1)");
        v.setPresent(2, false);
        int[] sets = {1 + 2 + 64, 1 + 2 + 128, 1 + 8 + 128, 1 + 16 + 128, 1 + 32 + 128, 1 + 64 + 128};
        for (int i = 0; i < sets.length; i++) {
            due("index " + i, v.smallest(0, i), sets[i]);
        }
        dueThrow(NONE, () -> v.smallest(0, sets.length));
        SecretVault w = vault();
        policy(w, 0, "1&2&3");
        due("no other member is needed", w.smallest(0, 0), 14);
        dueThrow(NONE, () -> w.smallest(0, 1));
        v.setPresent(0, false);
        dueThrow(NONE, () -> v.smallest(0, 0));
        due("no report", v.levels(), 0);
        dueThrow(NONE, () -> v.smallest(1, 0));
        dueThrow(BOUNDS, () -> v.smallest(4, 0));
        dueThrow(BOUNDS, () -> v.smallest(-1, -1));
    }

    private static void powerBits() {
        SecretVault v = vault();
        due("in 21 sets", v.powerBits(0, 0), Double.doubleToLongBits(21 / 128.0));
        policy(v, 0, "0");
        due("in all sets with two others", v.powerBits(0, 0), Double.doubleToLongBits((128 - 1 - 7) / 128.0));
        due("another", v.powerBits(0, 7), Double.doubleToLongBits(6 / 128.0));
        v.setPresent(7, false);
        due("an absent one", v.powerBits(0, 7), 0L);
        SecretVault w = new SecretVault();
        w.put(0, 5, 1);
        due("in one set", w.powerBits(0, 3), Double.doubleToLongBits(1 / 128.0));
        policy(w, 0, "4");
        due("in all", w.powerBits(0, 4), Double.doubleToLongBits(1.0));
        policy(w, 0, "4&3|5&6&7&3");
        due("in most", w.powerBits(0, 3), Double.doubleToLongBits(72 / 128.0));
        dueThrow(BOUNDS, () -> v.powerBits(4, 0));
        dueThrow(BOUNDS, () -> v.powerBits(1, 8));
        dueThrow(BOUNDS, () -> v.powerBits(0, -1));
        dueThrow(NONE, () -> v.powerBits(1, 0));
    }

    private static void healthBits() {
        for (int members = 8; members >= 1; members--) {
            SecretVault v = fullVault();
            for (int m = members; m < 8; m++) {
                v.expel(0, m);
            }
            int shares = 3 * members;
            for (int bad = 0; bad < shares; bad++) {
                due("bits", v.healthBits(0), Float.floatToIntBits((float) (shares - bad) / (float) shares));
                v.setShare(0, bad + 1, (first(bad + 1) + 1) % 1019);
            }
            due("none is good", v.healthBits(0), 0);
        }
        SecretVault v = vault();
        for (int m = 0; m < 8; m++) {
            v.expel(0, m);
        }
        dueThrow(ARITHMETIC, () -> v.healthBits(0));
        dueThrow(NONE, () -> v.healthBits(1));
        dueThrow(BOUNDS, () -> v.healthBits(4));
        dueThrow(BOUNDS, () -> v.healthBits(-1));
        SecretVault w = vault();
        for (int m = 0; m < 5; m++) {
            w.expel(0, m);
        }
        w.setShare(0, 22, 0);
        due("two thirds", w.healthBits(0), Float.floatToIntBits(2f / 3f));
        w.setShare(0, 19, 0);
        due("a third", w.healthBits(0), Float.floatToIntBits(1f / 3f));
    }

    // ---- 33 to 37: reports, events, snapshots

    private static void fails(Call call) {
        dueThrow(UNSUPPORTED, call);
    }

    private static void levels() {
        SecretVault v = vault();
        due("at first", v.levels(), 0);
        fails(() -> v.open(0, 1));
        due("too few", v.levels(), 2);
        v.setShare(0, 1, 0);
        fails(() -> v.open(0, 3));
        due("a wrong share", v.levels(), 3);
        fails(() -> v.open(0, 2));
        due("replaced", v.levels(), 2);
        for (int m = 0; m < 8; m++) {
            v.setWeight(m, 3);
        }
        v.put(1, 5, 1);
        for (int place = 1; place <= 24; place++) {
            v.setShare(1, place, 6);
        }
        fails(() -> v.open(1, 255));
        due("the most", v.levels(), 26);
        dueThrow(NONE, () -> v.open(3, 0));
        dueThrow(STATE, () -> v.combine(0, 0));
        v.groups(1);
        due("others leave none", v.levels(), 26);
    }

    private static void report() {
        SecretVault v = vault();
        dueThrow(NONE, () -> v.report(0, 0));
        dueThrow(NONE, () -> v.report(0, 2));
        v.put(2, 7, 4);
        makeStale(v, 2, 6);
        v.setShare(2, 4, (v.share(2, 4, 0) + 1) % 1019);
        importText(v, 2, "3:0@9#0");
        fails(() -> v.open(2, 255 - 32 - 16 - 8));
        due("report", report(v), "1:2 3:1 4:3 5:4 4:19");
        v.setPresent(1, false);
        fails(() -> v.reshare(2, 127 - 32 - 16, 1));
        due("report", report(v), "1:2 3:1 4:3 4:19");
        v.setWeight(0, 0);
        fails(() -> v.enroll(2, 1, 0));
        due("places that are not used", report(v), "1:2 3:3 4:3");
        policy(v, 2, "1");
        fails(() -> v.open(2, 3));
        due("policy", report(v), "1:2 2:1");
        v.open(0, 254);
        v.save();
        v.restore();
        due("it stays", report(v), "1:2 2:1");
        dueThrow(NONE, () -> v.report(2, 0));
        dueThrow(NONE, () -> v.report(-1, 2));
        dueThrow(NONE, () -> v.report(MAX, 5));
        dueThrow(ARGUMENT, () -> v.report(1, 2));
        dueThrow(ARGUMENT, () -> v.report(0, -1));
    }

    private static void event() {
        SecretVault v = new SecretVault();
        dueThrow(NONE, () -> v.event(0));
        v.put(3, 1, 1);
        v.refresh(3);
        v.reshare(3, 255, 2);
        v.enroll(3, 255, 5);
        v.expel(3, 5);
        v.open(3, 255);
        v.remove(3);
        int[] want = {203, 703, 635, 535, 403, 303, 103};
        for (int i = 0; i < want.length; i++) {
            due("event " + i, v.event(i), want[i]);
        }
        dueThrow(NONE, () -> v.event(7));
        dueThrow(NONE, () -> v.event(-1));
        dueThrow(NONE, () -> v.event(MIN));
        dueThrow(NONE, () -> v.event(MAX));
        v.put(0, 1, 8);
        fails(() -> v.open(0, 1));
        fails(() -> v.reshare(0, 1, 1));
        fails(() -> v.enroll(0, 1, 1));
        dueThrow(NONE, () -> v.remove(1));
        dueThrow(BOUNDS, () -> v.refresh(7));
        v.setWeight(0, 2);
        v.combine(0, 255);
        v.groups(0);
        v.setShare(0, 1, 1);
        due("failures and other calls are no events", v.event(0), 100);
        due("eight", events(v), 8);
        for (int i = 0; i < 45; i++) {
            v.put(i % 4, 1, 1);
            due("latest", v.event(0), 100 + i % 4);
        }
        due("twenty", events(v), 20);
        due("oldest", v.event(19), 100 + 25 % 4);
    }

    private static void save() {
        SecretVault v = new SecretVault();
        due("none", v.save(), 0);
        v.put(0, 1, 1);
        v.put(3, 1, 1);
        due("two", v.save(), 2);
        due("two", v.save(), 2);
        v.remove(0);
        due("replaced", v.save(), 1);
        v.put(1, 1, 1);
        due("restored", v.restore(), 1);
        dueThrow(NONE, () -> v.secret(0, 0));
        SecretVault full = fullVault();
        full.save();
        full.remove(0);
        full.restore();
        due("all places", full.secret(0, 3), 24);
        for (int i = 0; i < 30; i++) {
            full.open(0, 255);
            full.refresh(0);
        }
        full.save();
        for (int i = 0; i < 25; i++) {
            full.put(1, 1, 1);
        }
        full.restore();
        for (int i = 0; i < 20; i++) {
            due("event " + i, full.event(i), i % 2 == 0 ? 300 : 700);
        }
        due("twenty", events(full), 20);
        dueThrow(NONE, () -> v.secret(1, 0));
        due("no event", v.event(0), 200);
    }

    private static void restore() {
        SecretVault v = new SecretVault();
        dueThrow(STATE, () -> v.restore());
        v.put(0, 123, 3);
        policy(v, 0, "0|1");
        v.setWeight(5, 3);
        v.setPresent(6, false);
        v.setShare(0, 4, 9);
        v.seed(42);
        due("saved", v.save(), 1);
        for (int round = 0; round < 2; round++) {
            disturb(v);
            due("secrets", v.restore(), 1);
            due("z", v.seed(42), 42);
            due("weight", v.member(5, 0), 3);
            due("present", v.member(6, 1), 0);
            due("value", v.share(0, 1, 0), 461);
            due("set value", v.share(0, 4, 0), 9);
            due("epoch", v.secret(0, 1) * 10 + v.share(0, 1, 1), 11);
            due("threshold", v.secret(0, 0), 3);
            due("shares", v.secret(0, 2), 8);
            due("commitment", v.commitment(0, 2), 1167);
            due("policy", policyTextOf(v, 0), "0|1");
            dueThrow(NONE, () -> v.secret(1, 0));
            due("events", events(v), 1);
            due("event", v.event(0), 100);
            due("the buffer stays", v.append(0), 1);
            due("the error position stays", v.errorPosition(), 1);
            due("the report stays", report(v), "1:1 3:8");
        }
    }

    private static void disturb(SecretVault v) {
        v.setPolicy(0);
        v.put(1, 4, 8);
        dueThrow(UNSUPPORTED, () -> v.open(1, 0));
        v.refresh(0);
        v.expel(0, 1);
        v.setWeight(5, 0);
        v.setPresent(6, true);
        v.reshare(0, 255, 2);
        v.draw();
        type(v, "0|1|");
        type(v, "z");
        dueThrow(ARGUMENT, () -> v.setPolicy(0));
        type(v, "1");
        dueThrow(ARGUMENT, () -> v.importShare(0));
        type(v, "3");
    }
}
