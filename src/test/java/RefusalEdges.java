import java.util.ArrayList;
import java.util.List;

/**
 * Calls that are refused: of two vaults that were made alike, one gets the call as well; then all that can be asked is
 * asked of both, and the answers must be the same.
 */
final class RefusalEdges extends Edges {
    private static final String UNCHANGED =
        "A method that throws an exception leaves the state unchanged, unless its description says otherwise.";
    private static final String FIRST =
        "If several exceptions are possible, the one listed first in the description of the method is thrown.";
    private static final int[] NO_SLOT = {-1, 4, MIN, MAX};
    private static final int[] NO_MEMBER = {-1, 8, MIN, MAX};
    private static final int[] NO_SET = {-1, 256, MIN, MAX};
    private static final int[] NO_PLACE = {0, 25, MIN, MAX};

    private interface Act {
        void on(SecretVault v);
    }

    private interface Numbered {
        void on(SecretVault v, int number);
    }

    private interface View {
        String of(SecretVault v);
    }

    static void run() {
        members();
        dealing();
        reshare();
        enroll();
        opening();
        shares();
        shareTexts();
        policies();
        groups();
        reports();
        order();
        orderOfOpening();
        asking();
        announced();
    }

    // ---- vaults to compare

    /**
     * Slot 0 has a policy, a wrong, a stale and a newer share; slot 1 all good ones, and needs three; slot 2 has no
     * shares; slot 3 is empty. Members 4 and 6 are absent. There are a report, an error position, a text in the buffer,
     * and a state that was saved before.
     */
    private static SecretVault busy() {
        SecretVault v = new SecretVault();
        v.seed(-987654321);
        weigh(v, 3, 2, 0, 1, 1, 1, 1, 2);
        v.put(0, 1018, 3);
        give(v, 0, "0&(1|7)|2of(3,4,5)");
        makeStale(v, 0, 3);
        v.put(1, 5, 8);
        v.put(2, 77, 1);
        v.put(3, 1, 2);
        v.setPresent(5, false);
        v.save();
        v.setPresent(5, true);
        v.remove(3);
        v.put(1, 6, 3);
        expelAll(v, 2);
        spoil(v, 0, 2);
        take(v, 0, 24, 9, 77);
        v.setPresent(4, false);
        v.setPresent(6, false);
        v.open(0, 255);
        thrownBy(() -> v.open(0, 8));
        type(v, "0&x");
        thrownBy(() -> v.setPolicy(0));
        type(v, "3&4|(5)");
        return v;
    }

    static String answer(java.util.function.Supplier<Object> call) {
        try {
            return String.valueOf(call.get());
        } catch (RuntimeException e) {
            return e.getClass().getSimpleName();
        }
    }

    static String slot(SecretVault v, int slot) {
        StringBuilder text = new StringBuilder();
        for (int what = 0; what < 7; what++) {
            int w = what;
            text.append(answer(() -> v.secret(slot, w))).append(' ');
        }
        for (int place = 1; place <= 24; place++) {
            for (int what = 0; what < 3; what++) {
                int x = place;
                int w = what;
                text.append(answer(() -> v.share(slot, x, w))).append(' ');
            }
        }
        for (int j = 0; j < 8; j++) {
            int index = j;
            text.append(answer(() -> v.commitment(slot, index))).append(' ');
        }
        text.append(answer(() -> policyOf(v, slot))).append(' ').append(answer(() -> v.groups(slot)));
        for (int m = 0; m < 8; m++) {
            int member = m;
            text.append(' ').append(answer(() -> v.powerBits(slot, member)));
        }
        for (int set = 0; set < 256; set += 5) {
            int s = set;
            text.append(' ').append(answer(() -> v.fulfils(slot, s))).append(answer(() -> v.combine(slot, s)));
        }
        return text.toString();
    }

    private static String members(SecretVault v) {
        StringBuilder text = new StringBuilder();
        for (int m = 0; m < 8; m++) {
            for (int what = 0; what < 4; what++) {
                text.append(v.member(m, what)).append(' ');
            }
        }
        return text.append(zOf(v)).toString();
    }

    private static String events(SecretVault v) {
        StringBuilder text = new StringBuilder();
        for (int i = 0; i < 21; i++) {
            text.append(event(v, i)).append(' ');
        }
        return text.toString();
    }

    private static String bufferText(SecretVault v) {
        String length = String.valueOf(v.append(0));
        String read = answer(() -> v.setPolicy(1));
        return length + " " + read + " " + v.errorPosition() + " " + answer(() -> policyOf(v, 1));
    }

    /** Each view is asked of vaults of its own, so that none gets more than 512 calls. */
    private static List<View> views() {
        List<View> views = new ArrayList<>();
        for (int i = 0; i < 4; i++) {
            int slot = i;
            views.add(v -> "slot " + slot + ": " + slot(v, slot));
            views.add(v -> "saved: " + answer(() -> v.restore()) + " slot " + slot + ": " + slot(v, slot));
        }
        views.add(v -> "members: " + members(v));
        views.add(v -> "events: " + events(v));
        views.add(v -> "saved: " + answer(() -> v.restore()) + " members: " + members(v) + " events: " + events(v));
        views.add(v -> "report: " + reportOf(v));
        views.add(v -> "error position: " + v.errorPosition());
        views.add(v -> "buffer: " + bufferText(v));
        return views;
    }

    private static SecretVault busyAfter(Act before) {
        SecretVault v = busy();
        before.on(v);
        return v;
    }

    /** Whether the call throws, and what, is a check of its own. */
    private static void same(String what, Act before, Act call, String... mayChange) {
        for (View view : views()) {
            SecretVault left = busyAfter(before);
            SecretVault right = busyAfter(before);
            thrownBy(() -> call.on(right));
            String want = view.of(left);
            if (!List.of(mayChange).contains(want.substring(0, want.indexOf(':')))) {
                due(what, view.of(right), want);
            }
        }
    }

    private static void refuses(String what, Class<?> want, Act call, String... mayChange) {
        refusesAfter(v -> { }, what, want, call, mayChange);
    }

    /** Both vaults get some calls before. */
    private static void refusesAfter(Act before, String what, Class<?> want, Act call, String... mayChange) {
        SecretVault v = busyAfter(before);
        refused(what, want, () -> call.on(v));
        same(what, before, call, mayChange);
    }

    private static void refusesEach(String what, int[] numbers, Class<?> want, Numbered call) {
        for (int number : numbers) {
            refuses(what + " " + number, want, v -> call.on(v, number));
        }
    }

    // ---- each method's refusals

    private static void members() {
        edge(4, UNCHANGED, () -> {
            refusesEach("member", NO_MEMBER, BOUNDS, (v, n) -> v.setWeight(n, 1));
            refusesEach("weight", new int[] {-1, 4, MIN, MAX}, ARGUMENT, (v, n) -> v.setWeight(0, n));
        });
        edge(5, UNCHANGED, () -> {
            refusesEach("member", NO_MEMBER, BOUNDS, (v, n) -> v.setPresent(n, true));
            refusesEach("member", NO_MEMBER, BOUNDS, (v, n) -> v.setPresent(n, false));
        });
        edge(6, UNCHANGED, () -> {
            refusesEach("member", NO_MEMBER, BOUNDS, (v, n) -> v.member(n, 0));
            refusesEach("what", new int[] {-1, 4, MIN, MAX}, ARGUMENT, (v, n) -> v.member(0, n));
        });
    }

    private static void dealing() {
        edge(7, UNCHANGED, () -> {
            refusesEach("slot", NO_SLOT, BOUNDS, (v, n) -> v.put(n, 5, 2));
            refusesEach("value", new int[] {-1, 1019, MIN, MAX}, ARGUMENT, (v, n) -> v.put(0, n, 2));
            refusesEach("threshold", new int[] {0, 9, MIN, MAX}, ARGUMENT, (v, n) -> v.put(0, 5, n));
            for (int slot = 0; slot < 4; slot++) {
                int s = slot;
                refusesAfter(RefusalEdges::leaveSevenPlaces, "too few places", STATE, v -> v.put(s, 5, 8));
            }
        });
        edge(8, UNCHANGED, () -> {
            refusesEach("slot", NO_SLOT, BOUNDS, (v, n) -> v.remove(n));
            refuses("empty", NONE, v -> v.remove(3));
        });
        edge(9, UNCHANGED, () -> {
            refusesEach("slot", NO_SLOT, BOUNDS, (v, n) -> v.refresh(n));
            refuses("empty", NONE, v -> v.refresh(3));
        });
        edge(12, UNCHANGED, () -> {
            refusesEach("slot", NO_SLOT, BOUNDS, (v, n) -> v.expel(n, 0));
            refusesEach("member", NO_MEMBER, BOUNDS, (v, n) -> v.expel(0, n));
            refuses("empty", NONE, v -> v.expel(3, 0));
        });
    }

    /** The present members of a busy vault have nine used places, two of them member 7. */
    private static void leaveSevenPlaces(SecretVault v) {
        v.setWeight(7, 0);
    }

    private static void reshare() {
        edge(10, UNCHANGED, () -> {
            refusesEach("slot", NO_SLOT, BOUNDS, (v, n) -> v.reshare(n, 255, 2));
            refusesEach("set", NO_SET, ARGUMENT, (v, n) -> v.reshare(1, n, 2));
            refusesEach("threshold", new int[] {0, 9, MIN, MAX}, ARGUMENT, (v, n) -> v.reshare(1, 255, n));
            refuses("empty", NONE, v -> v.reshare(3, 255, 2));
            refusesAfter(RefusalEdges::leaveSevenPlaces, "too few places", STATE, v -> v.reshare(1, 255, 8));
        });
        edge(10, "if opening fails; this leaves a report", () -> {
            refuses("the policy", UNSUPPORTED, v -> v.reshare(0, 1, 2), "report");
            refuses("the shares", UNSUPPORTED, v -> v.reshare(1, 2, 2), "report");
            refuses("no shares", UNSUPPORTED, v -> v.reshare(2, 255, 2), "report");
        });
    }

    private static void enroll() {
        edge(11, UNCHANGED, () -> {
            refusesEach("slot", NO_SLOT, BOUNDS, (v, n) -> v.enroll(n, 255, 0));
            refusesEach("member", NO_MEMBER, BOUNDS, (v, n) -> v.enroll(0, 255, n));
            refusesEach("set", NO_SET, ARGUMENT, (v, n) -> v.enroll(0, n, 0));
            refuses("empty", NONE, v -> v.enroll(3, 255, 0));
        });
        edge(11, "if opening fails; this leaves a report", () -> {
            refuses("the policy", UNSUPPORTED, v -> v.enroll(0, 1, 0), "report");
            refuses("the shares", UNSUPPORTED, v -> v.enroll(1, 2, 0), "report");
            refuses("no shares", UNSUPPORTED, v -> v.enroll(2, 255, 0), "report");
        });
    }

    private static void opening() {
        edge(13, UNCHANGED, () -> {
            refusesEach("slot", NO_SLOT, BOUNDS, (v, n) -> v.open(n, 255));
            refusesEach("set", NO_SET, ARGUMENT, (v, n) -> v.open(0, n));
            refuses("empty", NONE, v -> v.open(3, 255));
        });
        edge(13, "if it fails; this leaves a report", () -> {
            refuses("the policy", UNSUPPORTED, v -> v.open(0, 1), "report");
            refuses("the shares", UNSUPPORTED, v -> v.open(1, 2), "report");
            refuses("no shares", UNSUPPORTED, v -> v.open(2, 255), "report");
        });
        edge(14, UNCHANGED, () -> {
            refusesEach("slot", NO_SLOT, BOUNDS, (v, n) -> v.combine(n, 255));
            refusesEach("set", NO_SET, ARGUMENT, (v, n) -> v.combine(0, n));
            refuses("empty", NONE, v -> v.combine(3, 255));
            refuses("too few", STATE, v -> v.combine(1, 2));
            refuses("no shares", STATE, v -> v.combine(2, 255));
        });
        edge(15, UNCHANGED, () -> {
            refusesEach("slot", NO_SLOT, BOUNDS, (v, n) -> v.agree(n, 255));
            refusesEach("set", NO_SET, ARGUMENT, (v, n) -> v.agree(0, n));
            refuses("empty", NONE, v -> v.agree(3, 255));
        });
    }

    private static void shares() {
        edge(16, UNCHANGED, () -> {
            refusesEach("slot", NO_SLOT, BOUNDS, (v, n) -> v.secret(n, 0));
            refusesEach("what", new int[] {-1, 7, MIN, MAX}, ARGUMENT, (v, n) -> v.secret(0, n));
            refuses("empty", NONE, v -> v.secret(3, 0));
        });
        edge(17, UNCHANGED, () -> {
            refusesEach("slot", NO_SLOT, BOUNDS, (v, n) -> v.commitment(n, 0));
            refusesEach("index", new int[] {-1, 3, MIN, MAX}, NONE, (v, n) -> v.commitment(0, n));
            refuses("empty", NONE, v -> v.commitment(3, 0));
        });
        edge(18, UNCHANGED, () -> {
            refusesEach("slot", NO_SLOT, BOUNDS, (v, n) -> v.share(n, 1, 0));
            refusesEach("place", NO_PLACE, BOUNDS, (v, n) -> v.share(0, n, 0));
            refusesEach("what", new int[] {-1, 3, MIN, MAX}, ARGUMENT, (v, n) -> v.share(0, 1, n));
            refusesEach("no share", new int[] {6, 7, 11}, NONE, (v, n) -> v.share(0, n, 0));
            refuses("empty", NONE, v -> v.share(3, 1, 0));
        });
        edge(19, UNCHANGED, () -> {
            refusesEach("slot", NO_SLOT, BOUNDS, (v, n) -> v.setShare(n, 1, 0));
            refusesEach("place", NO_PLACE, BOUNDS, (v, n) -> v.setShare(0, n, 0));
            refusesEach("value", new int[] {-1, 1019, MIN, MAX}, ARGUMENT, (v, n) -> v.setShare(0, 1, n));
            refusesEach("no share", new int[] {6, 7, 11}, NONE, (v, n) -> v.setShare(0, n, 5));
            refuses("empty", NONE, v -> v.setShare(3, 1, 5));
        });
    }

    /** Puts a text in place of the one that is in the buffer of a busy vault. */
    private static void retype(SecretVault v, String text) {
        v.setPolicy(1);
        type(v, text);
    }

    private static void shareTexts() {
        edge(20, UNCHANGED, () -> {
            refusesEach("slot", NO_SLOT, BOUNDS, (v, n) -> v.shareText(n, 1, 0));
            refusesEach("place", NO_PLACE, BOUNDS, (v, n) -> v.shareText(0, n, 0));
            refusesEach("index", new int[] {-2, MIN}, BOUNDS, (v, n) -> v.shareText(0, 1, n));
            refusesEach("index", new int[] {14, MAX}, NONE, (v, n) -> v.shareText(0, 1, n));
            refuses("no share", NONE, v -> v.shareText(0, 6, 0));
            refuses("empty", NONE, v -> v.shareText(3, 1, 0));
        });
        edge(21, UNCHANGED, () -> {
            refusesEach("slot", NO_SLOT, BOUNDS, (v, n) -> v.importShare(n));
            refuses("empty", NONE, v -> v.importShare(3));
            refuses("a text with an error", ARGUMENT, v -> v.importShare(0), "buffer", "error position");
            for (String text : new String[] {"", "1", "24:1018@9999#2", "25:1@1#9", "1:1019@1#5", "1:5@0#2", "2:5@3#2x"}) {
                refusesAfter(v -> retype(v, text), text, ARGUMENT, v -> v.importShare(0), "buffer", "error position");
            }
        });
        edge(22, UNCHANGED, () -> {
            refusesEach("slot", NO_SLOT, BOUNDS, (v, n) -> v.bad(n, 0));
            refusesEach("index", new int[] {-1, 24, MIN, MAX}, NONE, (v, n) -> v.bad(0, n));
            refuses("empty", NONE, v -> v.bad(3, 0));
        });
    }

    private static void policies() {
        edge(23, UNCHANGED, () -> {
            refusesEach("characters", new int[] {1, 32, 127, 0x30303020, 0x20303030, -1, MIN}, ARGUMENT, (v, n) -> v.append(n));
            Act full = v -> type(v, "|1of(3)" + "|3".repeat(13));
            for (int more : new int[] {'|', 0x30000000, 0x7C337C33}) {
                refusesAfter(full, "too many", STATE, v -> v.append(more));
            }
            refusesAfter(full, "too many, and one that is not allowed", ARGUMENT, v -> v.append(0x7C337C20));
        });
        edge(24, UNCHANGED, () -> {
            refusesEach("slot", NO_SLOT, BOUNDS, (v, n) -> v.setPolicy(n));
            refuses("empty", NONE, v -> v.setPolicy(3));
            for (String text : new String[] {"|", "8", "0of(1)", "1of(0"}) {
                refusesAfter(v -> retype(v, text), text, ARGUMENT, v -> v.setPolicy(0), "buffer", "error position");
            }
        });
        edge(26, UNCHANGED, () -> {
            refusesEach("slot", NO_SLOT, BOUNDS, (v, n) -> v.fulfils(n, 1));
            refusesEach("set", NO_SET, ARGUMENT, (v, n) -> v.fulfils(0, n));
            refuses("empty", NONE, v -> v.fulfils(3, 1));
        });
        edge(27, UNCHANGED, () -> {
            refusesEach("slot", NO_SLOT, BOUNDS, (v, n) -> v.policyText(n, 0));
            refusesEach("index", new int[] {-2, MIN}, BOUNDS, (v, n) -> v.policyText(0, n));
            refusesEach("index", new int[] {18, 40, MAX}, NONE, (v, n) -> v.policyText(0, n));
            refuses("no policy", NONE, v -> v.policyText(1, 0));
            refuses("empty", NONE, v -> v.policyText(3, 0));
        });
        edge(28, UNCHANGED, () -> {
            refusesEach("slot", NO_SLOT, BOUNDS, (v, n) -> v.policy(n, 0));
            refusesEach("what", new int[] {-1, 3, MIN, MAX}, ARGUMENT, (v, n) -> v.policy(0, n));
            refuses("no policy", NONE, v -> v.policy(1, 0));
            refuses("empty", NONE, v -> v.policy(3, 0));
        });
    }

    private static void groups() {
        edge(29, UNCHANGED, () -> {
            refusesEach("slot", NO_SLOT, BOUNDS, (v, n) -> v.groups(n));
            refuses("empty", NONE, v -> v.groups(3));
        });
        edge(30, UNCHANGED, () -> {
            refusesEach("slot", NO_SLOT, BOUNDS, (v, n) -> v.smallest(n, 0));
            refusesEach("index", new int[] {-1, 71, MIN, MAX}, NONE, (v, n) -> v.smallest(0, n));
            refuses("empty", NONE, v -> v.smallest(3, 0));
        });
        edge(31, UNCHANGED, () -> {
            refusesEach("slot", NO_SLOT, BOUNDS, (v, n) -> v.powerBits(n, 0));
            refusesEach("member", NO_MEMBER, BOUNDS, (v, n) -> v.powerBits(0, n));
            refuses("empty", NONE, v -> v.powerBits(3, 0));
        });
        edge(32, UNCHANGED, () -> {
            refusesEach("slot", NO_SLOT, BOUNDS, (v, n) -> v.healthBits(n));
            refuses("empty", NONE, v -> v.healthBits(3));
            refuses("no shares", ARITHMETIC, v -> v.healthBits(2));
        });
    }

    private static void reports() {
        edge(34, UNCHANGED, () -> {
            refusesEach("level", new int[] {-1, 26, MIN, MAX}, NONE, (v, n) -> v.report(n, 0));
            refusesEach("what", new int[] {-1, 2, MIN, MAX}, ARGUMENT, (v, n) -> v.report(0, n));
        });
        edge(35, UNCHANGED, () -> refusesEach("index", new int[] {-1, 20, MIN, MAX}, NONE, (v, n) -> v.event(n)));
        edge(37, UNCHANGED, () -> {
            SecretVault v = full(3);
            type(v, "0|1");
            String before = slot(v, 0);
            refused("nothing was saved", STATE, () -> v.restore());
            due("slot", slot(v, 0), before);
            due("z", zOf(v), drawn(1, 2));
            due("buffer", v.append(0), 3);
        });
    }

    // ---- which exception comes first

    private static void first(Class<?> want, Act... calls) {
        for (int i = 0; i < calls.length; i++) {
            refuses("call " + i, want, calls[i]);
        }
    }

    private static void order() {
        edge(4, FIRST, () -> first(BOUNDS, v -> v.setWeight(8, 4), v -> v.setWeight(-1, -1)));
        edge(6, FIRST, () -> first(BOUNDS, v -> v.member(8, 4), v -> v.member(-1, -1)));
        edge(7, FIRST, () -> {
            first(BOUNDS, v -> v.put(4, 1019, 2), v -> v.put(-1, 5, 9));
            SecretVault v = new SecretVault();
            onlyPresent(v, 0);
            refused("value", ARGUMENT, () -> v.put(0, 1019, 8));
            refused("threshold", ARGUMENT, () -> v.put(0, 5, 9));
            refused("slot", BOUNDS, () -> v.put(4, 1019, 9));
            refused("places", STATE, () -> v.put(0, 5, 8));
        });
        edge(12, FIRST, () -> first(BOUNDS, v -> v.expel(3, 8), v -> v.expel(4, 0)));
        edge(16, FIRST, () -> {
            first(BOUNDS, v -> v.secret(4, 7));
            first(ARGUMENT, v -> v.secret(3, 7), v -> v.secret(3, -1));
        });
        edge(17, FIRST, () -> first(BOUNDS, v -> v.commitment(4, 8), v -> v.commitment(-1, -1)));
        edge(18, FIRST, () -> {
            first(BOUNDS, v -> v.share(4, 1, 3), v -> v.share(0, 25, 3), v -> v.share(3, 0, 0), v -> v.share(3, 0, -1));
            first(ARGUMENT, v -> v.share(3, 1, 3), v -> v.share(0, 6, -1));
        });
        edge(19, FIRST, () -> {
            first(BOUNDS, v -> v.setShare(4, 1, 1019), v -> v.setShare(0, 25, -1), v -> v.setShare(3, 0, 5));
            first(ARGUMENT, v -> v.setShare(3, 1, 1019), v -> v.setShare(0, 6, -1));
        });
        edge(20, FIRST, () -> first(BOUNDS, v -> v.shareText(3, 1, -2), v -> v.shareText(0, 6, -2), v -> v.shareText(3, 25, 0),
            v -> v.shareText(3, 0, 99)));
        edge(21, FIRST, () -> {
            first(BOUNDS, v -> v.importShare(4), v -> v.importShare(-1));
            first(NONE, v -> v.importShare(3));
            SecretVault v = new SecretVault();
            refused("an empty slot, and an empty buffer", NONE, () -> v.importShare(0));
            type(v, "x");
            refused("an empty slot, and a text with an error", NONE, () -> v.importShare(0));
            refused("no such slot, and a text with an error", BOUNDS, () -> v.importShare(4));
            due("error position", v.errorPosition(), -1);
        });
        edge(22, FIRST, () -> first(BOUNDS, v -> v.bad(4, -1), v -> v.bad(-1, 99)));
        edge(23, FIRST, () -> {
            SecretVault v = new SecretVault();
            type(v, "0".repeat(40));
            refused("too many, and one that is not allowed", ARGUMENT, () -> v.append(0x30303020));
            refused("one that is not allowed", ARGUMENT, () -> v.append(32));
            refused("too many", STATE, () -> v.append(33));
            due("buffer", v.append(0), 40);
        });
        edge(24, FIRST, () -> {
            SecretVault v = new SecretVault();
            type(v, "0&");
            refused("an empty slot, and a text with an error", NONE, () -> v.setPolicy(0));
            refused("no such slot, and a text with an error", BOUNDS, () -> v.setPolicy(-1));
            due("error position", v.errorPosition(), -1);
            due("buffer", v.append(0), 2);
        });
        edge(26, FIRST, () -> {
            first(BOUNDS, v -> v.fulfils(4, 256));
            first(ARGUMENT, v -> v.fulfils(3, 256), v -> v.fulfils(3, -1));
        });
        edge(27, FIRST, () -> first(BOUNDS, v -> v.policyText(3, -2), v -> v.policyText(1, -2), v -> v.policyText(4, 99)));
        edge(28, FIRST, () -> {
            first(BOUNDS, v -> v.policy(4, 3), v -> v.policy(-1, -1));
            first(ARGUMENT, v -> v.policy(3, 3), v -> v.policy(1, -1));
        });
        edge(30, FIRST, () -> first(BOUNDS, v -> v.smallest(4, -1), v -> v.smallest(-1, 99)));
        edge(31, FIRST, () -> first(BOUNDS, v -> v.powerBits(3, 8), v -> v.powerBits(4, 0)));
        edge(32, FIRST, () -> {
            SecretVault v = new SecretVault();
            refused("empty, so without shares", NONE, () -> v.healthBits(0));
            refused(BOUNDS, () -> v.healthBits(4));
        });
        edge(34, FIRST, () -> first(NONE, v -> v.report(-1, 2), v -> v.report(99, -1)));
    }

    private static void orderOfOpening() {
        edge(10, FIRST, () -> {
            first(BOUNDS, v -> v.reshare(4, 256, 2), v -> v.reshare(-1, 255, 9));
            first(ARGUMENT, v -> v.reshare(3, 256, 2), v -> v.reshare(3, 255, 9), v -> v.reshare(0, 1, 9),
                v -> v.reshare(1, 256, 8), v -> v.reshare(2, 255, 0));
            first(NONE, v -> v.reshare(3, 0, 8));
            SecretVault v = vault(3);
            onlyPresent(v, 3);
            refused("opening fails, and there are too few places", UNSUPPORTED, () -> v.reshare(0, 255, 3));
            due("report", reportOf(v), "1:0 3:1");
            refused("the empty slot comes first", NONE, () -> v.reshare(1, 255, 3));
            refused("the threshold comes first", ARGUMENT, () -> v.reshare(0, 255, 9));
        });
        edge(11, FIRST, () -> {
            first(BOUNDS, v -> v.enroll(4, 256, 0), v -> v.enroll(0, 256, 8), v -> v.enroll(3, 255, 8), v -> v.enroll(0, 1, 8));
            first(ARGUMENT, v -> v.enroll(3, 256, 0), v -> v.enroll(2, 256, 0));
            first(NONE, v -> v.enroll(3, 0, 0));
        });
        edge(13, FIRST, () -> {
            first(BOUNDS, v -> v.open(4, 256));
            first(ARGUMENT, v -> v.open(3, 256), v -> v.open(2, 256));
            first(NONE, v -> v.open(3, 0));
        });
        edge(14, FIRST, () -> {
            first(BOUNDS, v -> v.combine(4, 256));
            first(ARGUMENT, v -> v.combine(3, 256), v -> v.combine(2, 256));
            first(NONE, v -> v.combine(3, 0));
        });
        edge(15, FIRST, () -> {
            first(BOUNDS, v -> v.agree(4, 256));
            first(ARGUMENT, v -> v.agree(3, 256));
        });
    }

    // ---- calls that answer, and change nothing or only what is told

    private static void answers(Act... calls) {
        for (int i = 0; i < calls.length; i++) {
            Act call = calls[i];
            SecretVault v = busy();
            due("call " + i, thrownBy(() -> call.on(v)), "none");
            same("call " + i, u -> { }, call);
        }
    }

    private static void asking() {
        edge(29, "combine, groups and smallest leave no report", () -> answers(v -> v.combine(0, 255), v -> v.combine(1, 255),
            v -> v.groups(0), v -> v.groups(2), v -> v.smallest(0, 0), v -> v.smallest(1, 0)));
        edge(15, "Returns whether it is so.", () -> answers(v -> v.agree(0, 255), v -> v.agree(2, 0)));
        edge(20, "Returns the code of the character or the length.",
            () -> answers(v -> v.shareText(0, 1, -1), v -> v.policyText(0, -1), v -> v.append(0)));
        edge(31, "Returns the power of a member", () -> answers(v -> v.powerBits(0, 0), v -> v.healthBits(0), v -> v.bad(0, 0)));
        edge(37, "it stays saved.", () -> {
            String[] want = new String[2];
            for (int times = 1; times <= 2; times++) {
                SecretVault v = busy();
                for (int i = 0; i < times; i++) {
                    v.restore();
                }
                want[times - 1] = slot(v, 0) + members(v) + events(v);
            }
            due("once and twice are the same", want[1], want[0]);
        });
    }

    private static void announced() {
        edge(24, "The buffer is empty afterwards, also if IllegalArgumentException is thrown.", () -> {
            SecretVault v = busy();
            type(v, "|");
            refused(ARGUMENT, () -> v.setPolicy(0));
            due("buffer", v.append(0), 0);
            due("error position", v.errorPosition(), 8);
            due("policy", policyOf(v, 0), "0&(1|7)|2of(3,4,5)");
        });
        edge(21, "The buffer is empty afterwards, also if IllegalArgumentException is thrown.", () -> {
            SecretVault v = busy();
            refused(ARGUMENT, () -> v.importShare(0));
            due("buffer", v.append(0), 0);
            due("error position", v.errorPosition(), 1);
        });
        edge(13, "if it fails; this leaves a report", () -> {
            SecretVault v = busy();
            due("before", reportOf(v), "1:0 2:8");
            refused(UNSUPPORTED, () -> v.open(1, 2));
            due("afterwards", reportOf(v), "1:1 3:1");
        });
    }
}
