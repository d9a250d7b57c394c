import java.util.ArrayList;
import java.util.List;

/** Slots, members, places and sets: for each sentence that limits them, the values on both sides of the limit. */
final class ArgumentEdges extends Edges {
    private static final String NO_SLOT = "Throws `IndexOutOfBoundsException` if there is no such slot";
    private static final String EMPTY = "Throws `java` .util.NoSuchElementException if the slot is empty";
    private static final String NO_MEMBER_OF_BIT = "Throws `IllegalArgumentException` if a bit is set for no member";

    private interface Numbered {
        void on(SecretVault v, int number);
    }

    interface Asked {
        Object on(SecretVault v, int slot);
    }

    static void run() {
        for (SlotCall call : slotCalls()) {
            slots(call);
            empty(call);
        }
        sets(10, "`members`: the set, bit m for member m", (v, set) -> v.reshare(0, set, 1));
        sets(11, NO_MEMBER_OF_BIT, (v, set) -> v.enroll(0, set, 0));
        sets(13, NO_MEMBER_OF_BIT, (v, set) -> v.open(0, set));
        sets(14, NO_MEMBER_OF_BIT, (v, set) -> v.combine(0, set));
        sets(15, NO_MEMBER_OF_BIT, (v, set) -> v.agree(0, set));
        sets(26, NO_MEMBER_OF_BIT, (v, set) -> v.fulfils(0, set));
        members();
        places();
        values();
        properties();
        states();
    }

    /** A method with a slot, what its description says of it, and a call that a filled slot answers. */
    record SlotCall(int promise, String noSlot, String empty, Asked call) { }

    static List<SlotCall> slotCalls() {
        List<SlotCall> calls = new ArrayList<>();
        String ofMember = NO_SLOT + " or member";
        String ofPlace = NO_SLOT + " or place";
        String itself = "Throws `java` .util.NoSuchElementException if it is empty";
        calls.add(new SlotCall(8, NO_SLOT, itself, (v, slot) -> v.remove(slot)));
        calls.add(new SlotCall(9, NO_SLOT, itself, (v, slot) -> v.refresh(slot)));
        calls.add(new SlotCall(10, NO_SLOT, EMPTY, (v, slot) -> v.reshare(slot, 255, 2)));
        calls.add(new SlotCall(11, ofMember, EMPTY, (v, slot) -> v.enroll(slot, 255, 0)));
        calls.add(new SlotCall(12, ofMember, EMPTY, (v, slot) -> v.expel(slot, 0)));
        calls.add(new SlotCall(13, NO_SLOT, EMPTY, (v, slot) -> v.open(slot, 255)));
        calls.add(new SlotCall(14, NO_SLOT, EMPTY, (v, slot) -> v.combine(slot, 255)));
        calls.add(new SlotCall(15, NO_SLOT, EMPTY, (v, slot) -> v.agree(slot, 255)));
        calls.add(new SlotCall(16, NO_SLOT, EMPTY, (v, slot) -> v.secret(slot, 0)));
        calls.add(new SlotCall(17, NO_SLOT, EMPTY + " or has no such commitment", (v, slot) -> v.commitment(slot, 0)));
        calls.add(new SlotCall(18, ofPlace, EMPTY + " or has no share at this place", (v, slot) -> v.share(slot, 1, 0)));
        calls.add(new SlotCall(19, ofPlace, EMPTY + " or has no share at this place", (v, slot) -> v.setShare(slot, 1, 5)));
        calls.add(new SlotCall(20, ofPlace + ", or index is less than -1", "Throws `NoSuchElementException` if the slot is empty,",
            (v, slot) -> v.shareText(slot, 1, -1)));
        calls.add(new SlotCall(21, NO_SLOT, "Throws `NoSuchElementException` if the slot is empty",
            (v, slot) -> take(v, slot, "1:5@1#3")));
        calls.add(new SlotCall(22, NO_SLOT, EMPTY + " or there is no such index", (v, slot) -> v.bad(slot, 0)));
        calls.add(new SlotCall(24, NO_SLOT, EMPTY, (v, slot) -> give(v, slot, "1&2")));
        calls.add(new SlotCall(26, NO_SLOT, EMPTY, (v, slot) -> v.fulfils(slot, 0)));
        calls.add(new SlotCall(27, NO_SLOT + ", or index is less than -1", "Throws `NoSuchElementException` if the slot is empty,",
            (v, slot) -> v.policyText(slot, -1)));
        calls.add(new SlotCall(28, NO_SLOT, EMPTY + " or there is no policy", (v, slot) -> v.policy(slot, 0)));
        calls.add(new SlotCall(29, NO_SLOT, EMPTY, (v, slot) -> v.groups(slot)));
        calls.add(new SlotCall(30, NO_SLOT, EMPTY + " or there is no such index", (v, slot) -> v.smallest(slot, 0)));
        calls.add(new SlotCall(31, ofMember, EMPTY, (v, slot) -> v.powerBits(slot, 0)));
        calls.add(new SlotCall(32, NO_SLOT, EMPTY, (v, slot) -> v.healthBits(slot)));
        return calls;
    }

    /** All slots are filled; each has a policy and a share that is not good. */
    private static SecretVault filled() {
        SecretVault v = new SecretVault();
        for (int slot = 0; slot < 4; slot++) {
            v.put(slot, 5, 1);
            give(v, slot, "0|1");
            v.setShare(slot, 4, 6);
        }
        return v;
    }

    private static void slots(SlotCall row) {
        edge(row.promise, row.noSlot, () -> {
            for (int slot : new int[] {-1, 4, 5, -4, 256, MIN, MAX}) {
                refused("slot " + slot, BOUNDS, () -> row.call.on(filled(), slot));
                refused("slot " + slot + " of a new vault", BOUNDS, () -> row.call.on(new SecretVault(), slot));
            }
            for (int slot = 0; slot < 4; slot++) {
                int s = slot;
                due("slot " + slot, thrownBy(() -> row.call.on(filled(), s)), "none");
            }
        });
    }

    private static void empty(SlotCall row) {
        edge(row.promise, row.empty, () -> {
            for (int slot = 0; slot < 4; slot++) {
                int s = slot;
                refused("slot " + slot + " of a new vault", NONE, () -> row.call.on(new SecretVault(), s));
                SecretVault v = filled();
                v.remove(slot);
                refused("slot " + slot + ", emptied", NONE, () -> row.call.on(v, s));
                SecretVault saved = new SecretVault();
                saved.save();
                saved.put(slot, 5, 1);
                saved.restore();
                refused("slot " + slot + ", empty in what was saved", NONE, () -> row.call.on(saved, s));
            }
        });
    }

    private static void sets(int promise, String sentence, Numbered call) {
        edge(promise, sentence, () -> {
            for (int set : new int[] {-1, -2, 256, 257, 511, 512, 65536, 65537, 1 << 30, MAX, MIN, MIN + 1, -256, -255}) {
                refused("set " + set, ARGUMENT, () -> call.on(filled(), set));
            }
            for (int set = 0; set < 256; set++) {
                int s = set;
                due("set " + set, thrownBy(() -> call.on(filled(), s)).equals(ARGUMENT.getName()), false);
            }
        });
    }

    private static void limits(int low, int high, Class<?> want, Numbered call) {
        for (int number : new int[] {low - 1, low - 2, high + 1, high + 2, MIN, MAX}) {
            refused("number " + number, want, () -> call.on(full(1), number));
        }
        for (int number = low; number <= high; number++) {
            int n = number;
            due("number " + number, thrownBy(() -> call.on(full(1), n)), "none");
        }
    }

    private static void members() {
        edge(4, "Throws `IndexOutOfBoundsException` if there is no such member",
            () -> limits(0, 7, BOUNDS, (v, m) -> v.setWeight(m, 1)));
        edge(5, "Throws `IndexOutOfBoundsException` if there is no such member",
            () -> limits(0, 7, BOUNDS, (v, m) -> v.setPresent(m, false)));
        edge(6, "Throws `IndexOutOfBoundsException` if there is no such member",
            () -> limits(0, 7, BOUNDS, (v, m) -> v.member(m, 3)));
        edge(11, NO_SLOT + " or member", () -> limits(0, 7, BOUNDS, (v, m) -> v.enroll(0, 255, m)));
        edge(12, NO_SLOT + " or member", () -> limits(0, 7, BOUNDS, (v, m) -> v.expel(0, m)));
        edge(31, NO_SLOT + " or member", () -> limits(0, 7, BOUNDS, (v, m) -> v.powerBits(0, m)));
    }

    private static void places() {
        edge(18, NO_SLOT + " or place", () -> limits(1, 24, BOUNDS, (v, place) -> v.share(0, place, 0)));
        edge(19, NO_SLOT + " or place", () -> limits(1, 24, BOUNDS, (v, place) -> v.setShare(0, place, 5)));
        edge(20, "`place`: the place, 1 to 24", () -> limits(1, 24, BOUNDS, (v, place) -> v.shareText(0, place, -1)));
    }

    private static void values() {
        edge(7, "Throws `IllegalArgumentException` if the value or the threshold is out of range", () -> {
            limits(0, 1018, ARGUMENT, (v, value) -> v.put(0, value, 8));
            limits(1, 8, ARGUMENT, (v, threshold) -> v.put(0, 5, threshold));
        });
        edge(10, "or the threshold is out of range", () -> limits(1, 8, ARGUMENT, (v, k) -> v.reshare(0, 255, k)));
        edge(19, "Throws `IllegalArgumentException` if the value is out of range",
            () -> limits(0, 1018, ARGUMENT, (v, value) -> v.setShare(0, 24, value)));
        edge(21, "Throws `IllegalArgumentException` if the text has an error", () -> {
            limits(1, 24, ARGUMENT, (v, place) -> take(v, 0, shareText(place, 5, 1)));
            limits(0, 1018, ARGUMENT, (v, value) -> take(v, 0, shareText(1, value, 1)));
            for (int epoch : new int[] {0, 10000, 99999}) {
                refused("epoch " + epoch, ARGUMENT, () -> take(full(1), 0, shareText(1, 5, epoch)));
            }
            for (int epoch = 1; epoch <= 9999; epoch += epoch < 1100 ? 1 : 89) {
                int e = epoch;
                due("epoch " + epoch, thrownBy(() -> take(full(1), 0, shareText(1, 5, e))), "none");
            }
            due("the greatest epoch", thrownBy(() -> take(full(1), 0, shareText(1, 5, 9999))), "none");
        });
    }

    private static void properties() {
        edge(6, "Throws `IllegalArgumentException` if what is not from 0 to 3",
            () -> limits(0, 3, ARGUMENT, (v, what) -> v.member(0, what)));
        edge(16, "Throws `IllegalArgumentException` if what is not from 0 to 6",
            () -> limits(0, 6, ARGUMENT, (v, what) -> v.secret(0, what)));
        edge(18, "`what`: 0 for its value, 1 for its epoch, 2 for its state: 0 good, 1 stale, 2 wrong", () -> {
            limits(0, 2, ARGUMENT, (v, what) -> v.share(0, 24, what));
            SecretVault v = full(2);
            spoil(v, 0, 22);
            take(v, 0, 23, 1018, 2);
            due("value", v.share(0, 23, 0), 1018);
            due("epoch", v.share(0, 23, 1), 2);
            due("good", v.share(0, 24, 2), 0);
            due("stale", v.share(0, 23, 2), 1);
            due("wrong", v.share(0, 22, 2), 2);
        });
        edge(28, "Throws `IllegalArgumentException` if what is not from 0 to 2", () -> {
            limits(0, 2, ARGUMENT, (v, what) -> {
                give(v, 0, "0");
                v.policy(0, what);
            });
        });
        edge(34, "`what`: 0 for the code, 1 for the detail", () -> {
            limits(0, 1, ARGUMENT, (v, what) -> {
                thrownBy(() -> v.open(0, 0));
                v.report(1, what);
            });
            SecretVault v = full(8);
            refused(UNSUPPORTED, () -> v.open(0, 1));
            due("code", v.report(1, 0), 3);
            due("detail", v.report(1, 1), 5);
        });
        edge(35, "`index`: the index, 0 for the latest event", () -> {
            SecretVault v = full(8);
            v.open(0, 255);
            due("the latest", v.event(0), 700);
            due("the one before", v.event(1), 100);
            refused("one more", NONE, () -> v.event(2));
            refused("one less", NONE, () -> v.event(-1));
        });
    }

    private static void states() {
        edge(7, "For a secret there are a threshold k from 1 to 8, an epoch, commitments, a policy or none, and shares at places.",
            () -> {
            for (int k = 1; k <= 8; k++) {
                SecretVault v = full(k);
                due("threshold", v.secret(0, 0), k);
                due("epoch", v.secret(0, 1), 1);
                due("no policy", v.secret(0, 6), 0);
                due("shares", v.secret(0, 2), 24);
                due("as many commitments", thrownBy(() -> v.commitment(0, v.secret(0, 0) - 1)), "none");
                refused("no more", NONE, () -> v.commitment(0, v.secret(0, 0)));
            }
        });
        edge(7, "Numbers. p is 1019 and q is 2039, both prime.", () -> {
            due("the greatest value", new SecretVault().put(0, P - 1, 1), 8);
            refused("p itself", ARGUMENT, () -> new SecretVault().put(0, P, 1));
            SecretVault v = new SecretVault();
            v.put(0, P - 1, 1);
            due("4 to the power of p is 1 modulo q", v.commitment(0, 0) * 4 % Q, 1);
        });
        edge(10, "Returns the number of shares.", () -> {
            SecretVault v = full(1);
            due("most", v.reshare(0, 255, 8), 24);
            onlyPresent(v, 128 + 1 + 2);
            weigh(v, 0, 0, 0, 0, 0, 0, 0, 1);
            due("fewest", v.reshare(0, 255, 1), 1);
            due("places", placesOf(v, 0), "22");
        });
        edge(5, "A member is present or absent; all are present at first.", () -> {
            SecretVault v = full(1);
            due("present", v.setPresent(7, false), true);
            due("absent", v.setPresent(7, true), false);
            due("its shares stay", v.member(7, 2), 3);
        });
        edge(13, "Throws `UnsupportedOperationException` if it fails; this leaves a report", () -> {
            SecretVault v = vault(1);
            refused("one share is needed", UNSUPPORTED, () -> v.open(0, 0));
            due("report", reportOf(v), "1:0 3:1");
            due("one share", v.open(0, 128), 123);
        });
    }
}
