import java.util.ArrayList;
import java.util.List;
import java.util.Random;
import java.util.Set;
import java.util.TreeSet;

/** For each method the sentences that tell what it does, what its arguments are and what it returns. */
final class MethodEdges extends Edges {
    static void run() {
        randomNumbers();
        members();
        ofSlots();
        ofMembers();
        refreshAndEnroll();
        openAndCombine();
        secret();
        shares();
        shareTexts();
        buffer();
        policies();
        policySizes();
        groups();
        reports();
        events();
    }

    // ---- 2 to 6

    private static void randomNumbers() {
        edge(2, "`z`: the number", () -> {
            for (int z = MAX - 70000; z < MAX - 40000; z += 65) {
                SecretVault v = new SecretVault();
                v.seed(z * 31);
                due("z", v.seed(1), z * 31);
            }
        });
        edge(3, "Draws a random number.", () -> {
            SecretVault v = new SecretVault();
            v.seed(2026);
            v.draw();
            v.put(0, 5, 3);
            due("behind those of a polynomial", v.draw(), number(drawn(2026, 4)));
            v.refresh(0);
            due("behind those of refreshing", v.draw(), number(drawn(2026, 7)));
            v.reshare(0, 255, 8);
            due("behind those of dealing anew", v.draw(), number(drawn(2026, 15)));
            v.enroll(0, 255, 0);
            v.open(0, 255);
            v.groups(0);
            due("and only those", v.draw(), number(drawn(2026, 16)));
        });
        edge(3, "Returns the number drawn.", () -> {
            SecretVault v = new SecretVault();
            v.put(0, 0, 1);
            for (int i = 1; i <= 100; i++) {
                int number = v.draw();
                due("number " + i, number, number(drawn(1, i)));
                due("in range", number >= 0 && number < P, true);
            }
        });
    }

    private static void members() {
        edge(4, "Sets the weight of a member.", () -> {
            for (int m = 0; m < 8; m++) {
                for (int weight = 0; weight <= 3; weight++) {
                    SecretVault v = new SecretVault();
                    v.setWeight(m, weight);
                    due("weight", v.member(m, 0), weight);
                    due("shares", v.put(0, 5, 1), 7 + weight);
                    due("its shares", v.member(m, 2), weight);
                }
            }
        });
        edge(4, "`member`: the member", () -> {
            SecretVault v = new SecretVault();
            weigh(v, 3, 1, 0, 2, 2, 3, 0, 1);
            int[] want = {3, 1, 0, 2, 2, 3, 0, 1};
            for (int m = 0; m < 8; m++) {
                due("of this member alone", v.member(m, 0), want[m]);
            }
        });
        edge(5, "`member`: the member", () -> {
            for (int set = 0; set < 256; set += 3) {
                SecretVault v = new SecretVault();
                onlyPresent(v, set);
                for (int m = 0; m < 8; m++) {
                    due("of this member alone", v.member(m, 1), set >> m & 1);
                }
            }
        });
        edge(5, "`present`: whether it is present", () -> {
            SecretVault v = new SecretVault();
            v.setPresent(3, false);
            due("absent", v.member(3, 1), 0);
            v.setPresent(3, false);
            due("still absent", v.member(3, 1), 0);
            due("it gets no share", v.put(0, 5, 1) * 10 + v.member(3, 2), 70);
            v.setPresent(3, true);
            due("present", v.member(3, 1), 1);
            v.setPresent(3, true);
            due("still present", v.member(3, 1), 1);
            due("it gets a share", v.put(0, 5, 1) * 10 + v.member(3, 2), 81);
        });
        edge(6, "`what`: 0 for its weight, 1 for 1 if it is present, otherwise 0, 2 for the number of its shares of all secrets, 3 "
            + "for the number of those among them that are not good", () -> {
            SecretVault v = fourLively();
            int[] weights = {2, 3, 1, 2, 3, 0, 3, 3};
            StringBuilder states = new StringBuilder();
            for (int slot = 0; slot < 4; slot++) {
                states.append(statesOf(v, slot));
            }
            for (int m = 0; m < 8; m++) {
                int all = 0;
                int bad = 0;
                for (int i = 0; i < 96; i++) {
                    boolean own = i % 24 / 3 == m;
                    all += own && states.charAt(i) != '-' ? 1 : 0;
                    bad += own && states.charAt(i) != '-' && states.charAt(i) != 'g' ? 1 : 0;
                }
                due("weight of " + m, v.member(m, 0), weights[m]);
                due("presence of " + m, v.member(m, 1), m == 2 || m == 6 ? 0 : 1);
                due("shares of " + m, v.member(m, 2), all);
                due("shares of " + m + " that are not good", v.member(m, 3), bad);
            }
        });
        edge(6, "`member`: the member", () -> {
            SecretVault v = MeaningEdges.lively(2);
            due("first", v.member(0, 0) * 100 + v.member(0, 2) * 10 + v.member(0, 3), 231);
            due("second", v.member(1, 0) * 100 + v.member(1, 2) * 10 + v.member(1, 3), 333);
            due("fourth", v.member(3, 0) * 100 + v.member(3, 2) * 10 + v.member(3, 3), 200);
            due("last", v.member(7, 0) * 100 + v.member(7, 2) * 10 + v.member(7, 3), 330);
        });
        edge(6, "Returns a property of a member.", () -> {
            SecretVault v = new SecretVault();
            v.setWeight(4, 2);
            v.put(3, 7, 1);
            v.setPresent(4, false);
            v.setShare(3, 14, 8);
            int[] want = {2, 0, 2, 1};
            for (int what = 0; what < 4; what++) {
                due("what " + what, v.member(4, what), want[what]);
            }
        });
        edge(6, "Returns the property.", () -> {
            SecretVault v = vault(1);
            for (int shares = 1; shares <= 4; shares++) {
                v.put(shares - 1, 5, 1);
                due("of " + shares + " secrets", v.member(7, 2), shares);
                due("all are good", v.member(7, 3), 0);
            }
            v.refresh(2);
            take(v, 2, 22, 5, 1);
            due("one is stale", v.member(7, 3), 1);
        });
    }

    /** A lively slot 0, and in each other slot another secret with shares of all states. */
    private static SecretVault fourLively() {
        SecretVault v = MeaningEdges.lively(3);
        for (int slot = 1; slot < 4; slot++) {
            v.put(slot, 50 + slot, slot);
            makeStale(v, slot, slot);
            v.setShare(slot, 13, 900 + slot);
            v.expel(slot, 4 - slot / 2);
        }
        v.setPresent(2, false);
        return v;
    }

    // ---- slots

    /** Each slot has another value, threshold, epoch, policy, and other shares; the last has no policy. */
    private static SecretVault four() {
        SecretVault v = new SecretVault();
        String[] policies = {"0|1", "1|2|3", "1of(2,5)|3&0", ""};
        for (int slot = 0; slot < 4; slot++) {
            v.setWeight(slot, 3);
            v.put(slot, 100 + slot, slot + 1);
            for (int i = 0; i < slot; i++) {
                v.refresh(slot);
            }
            give(v, slot, policies[slot]);
            int place = 3 * slot + 1;
            if (slot < 2) {
                spoil(v, slot, place);
            } else {
                take(v, slot, place, v.share(slot, place, 0), 99);
            }
        }
        v.setShare(3, 1, 7);
        return v;
    }

    private static SecretVault onlySlot(int slot) {
        SecretVault v = four();
        for (int other = 0; other < 4; other++) {
            if (other != slot) {
                v.remove(other);
            }
        }
        return v;
    }

    private static void ofSlots() {
        List<ArgumentEdges.SlotCall> calls = new ArrayList<>(ArgumentEdges.slotCalls());
        calls.add(new ArgumentEdges.SlotCall(7, "", "", (v, slot) -> v.put(slot, 9, 8)));
        for (ArgumentEdges.SlotCall row : calls) {
            edge(row.promise(), "`slot`: the slot", () -> concernsItsSlot(row));
        }
    }

    private static void concernsItsSlot(ArgumentEdges.SlotCall row) {
        Set<String> answers = new TreeSet<>();
        boolean changed = false;
        for (int slot = 0; slot < 4; slot++) {
            int s = slot;
            SecretVault v = four();
            SecretVault alone = onlySlot(slot);
            v.seed(77);
            alone.seed(77);
            String got = RefusalEdges.answer(() -> row.call().on(v, s));
            answers.add(got);
            due("slot " + slot + " answers as if it were alone:", got, RefusalEdges.answer(() -> row.call().on(alone, s)));
            String after = RefusalEdges.slot(v, slot);
            due("slot " + slot + " becomes what it would alone:", after, RefusalEdges.slot(alone, slot));
            changed = changed || !after.equals(RefusalEdges.slot(four(), slot));
            for (int other = 0; other < 4; other++) {
                SecretVault w = four();
                RefusalEdges.answer(() -> row.call().on(w, s));
                if (other != slot) {
                    due("slot " + other + " stays", RefusalEdges.slot(w, other), RefusalEdges.slot(four(), other));
                }
            }
        }
        due("the slots differ", changed || answers.size() > 1, true);
    }

    // ---- members

    private static final String SET = "`members`: the set, bit m for member m";

    /** Only this member's share is good. */
    private static SecretVault onlyGood(int member) {
        SecretVault v = vault(1);
        for (int m = 0; m < 8; m++) {
            if (m != member) {
                spoil(v, 0, 3 * m + 1);
            }
        }
        return v;
    }

    private static void ofMembers() {
        for (int member = 0; member < 8; member++) {
            int m = member;
            int bit = 1 << m;
            edge(10, SET, () -> {
                refused("without it", UNSUPPORTED, () -> onlyGood(m).reshare(0, 255 - bit, 2));
                due("with it", onlyGood(m).reshare(0, bit, 2), 8);
            });
            edge(11, SET, () -> {
                refused("without it", UNSUPPORTED, () -> onlyGood(m).enroll(0, 255 - bit, 7 - m));
                due("with it", onlyGood(m).enroll(0, bit, 7 - m), 1);
            });
            edge(11, "`member`: the member", () -> {
                SecretVault v = onlyGood(m);
                int other = (m + 5) % 8;
                v.enroll(0, 255, other);
                due("it has a good share", v.share(0, 3 * other + 1, 2), 0);
                due("no other has", v.secret(0, 3), 2);
            });
            edge(12, "`member`: the member", () -> {
                SecretVault v = full(1);
                due("shares", v.expel(0, m), 3);
                due("its shares", v.member(m, 2), 0);
                due("all others'", v.secret(0, 2), 21);
            });
            edge(13, SET, () -> {
                refused("without it", UNSUPPORTED, () -> onlyGood(m).open(0, 255 - bit));
                due("with it", onlyGood(m).open(0, bit), 123);
            });
            edge(14, SET, () -> {
                SecretVault v = vault(1);
                v.setShare(0, 3 * m + 1, 900);
                due("it alone", v.combine(0, bit), 900);
                if (m > 0) {
                    due("the lowest of the others", v.combine(0, 255 - bit), 123);
                }
                due("and those that follow", v.combine(0, 256 - bit), 900);
            });
            edge(15, SET, () -> {
                SecretVault v = vault(1);
                v.setShare(0, 3 * m + 1, 900);
                due("all", v.agree(0, 255), false);
                due("without it", v.agree(0, 255 - bit), true);
                due("it alone", v.agree(0, bit), true);
            });
            edge(26, SET, () -> {
                SecretVault v = vault(1);
                give(v, 0, m + "&" + m);
                due("it alone", v.fulfils(0, bit), true);
                due("without it", v.fulfils(0, 255 - bit), false);
            });
            edge(31, "`member`: the member", () -> {
                SecretVault v = vault(1);
                give(v, 0, String.valueOf(m));
                for (int other = 0; other < 8; other++) {
                    due("power of " + other, v.powerBits(0, other), other == m ? Double.doubleToLongBits(1.0) : 0L);
                }
            });
        }
    }

    // ---- 9 and 11

    private static void refreshAndEnroll() {
        edge(9, "Refreshes a secret.", () -> {
            SecretVault v = vault(3);
            v.put(1, 7, 3);
            int[] before = new int[23];
            for (int x = 1; x <= 22; x += 3) {
                before[x] = v.share(0, x, 0);
            }
            int[] b = polynomial(zOf(v), 0, 3);
            v.refresh(0);
            for (int x = 1; x <= 22; x += 3) {
                due("share at " + x, textOf(v, 0, x), shareText(x, (before[x] + at(b, x)) % P, 2));
            }
            due("the secret is the same", v.open(0, 7 * 32), 123);
            due("another one is not refreshed", v.secret(1, 1), 1);
        });
        edge(11, "Opens a secret for a set of members and gives a member, for each used place at which it has no share that is "
            + "good, a share with the value at this place that the same k shares determine, and with the epoch of the secret, in "
            + "place of an earlier one.", () -> {
            int[] weights = {2, 3, 1, 2, 3, 0, 3, 3};
            String before = statesOf(MeaningEdges.lively(3), 0);
            for (int k = 1; k <= 8; k++) {
                for (int m = 0; m < 8; m++) {
                    SecretVault v = MeaningEdges.lively(k);
                    StringBuilder after = new StringBuilder(before);
                    int given = 0;
                    int[] places = MeaningEdges.goodPlaces(255 - 4 - 64, k);
                    int[] values = new int[k];
                    for (int i = 0; i < k; i++) {
                        values[i] = v.share(0, places[i], 0);
                    }
                    for (int x = 3 * m + 1; x <= 3 * m + weights[m]; x++) {
                        given += before.charAt(x - 1) == 'g' ? 0 : 1;
                        after.setCharAt(x - 1, 'g');
                    }
                    due("given to " + m, v.enroll(0, 255, m), given);
                    due("states", statesOf(v, 0), after.toString());
                    for (int x = 3 * m + 1; x <= 3 * m + weights[m]; x++) {
                        due("share", textOf(v, 0, x), shareText(x, through(places, values, x), v.secret(0, 1)));
                    }
                }
            }
        });
    }

    // ---- 13 and 14

    private static void openAndCombine() {
        edge(13, "Opens a secret.", () -> {
            SecretVault v = new SecretVault();
            for (int slot = 0; slot < 4; slot++) {
                v.put(slot, 250 * slot, slot + 1);
            }
            for (int slot = 3; slot >= 0; slot--) {
                due("value", v.open(slot, 240), 250 * slot);
                due("it stays", v.secret(slot, 2), 8);
                due("and opens again", v.open(slot, 15), 250 * slot);
            }
        });
        edge(14, "Returns the value.", () -> {
            for (int k = 1; k <= 8; k++) {
                SecretVault v = full(k);
                int[] places = new int[k];
                int[] values = new int[k];
                for (int i = 0; i < k; i++) {
                    places[i] = i + 1;
                    values[i] = (997 * k + 389 * i * i) % P;
                    v.setShare(0, i + 1, values[i]);
                }
                due("value", v.combine(0, 255), through(places, values, 0));
            }
        });
    }

    // ---- 16 and 17

    private static void secret() {
        edge(16, "`what`: 0 for its threshold, 1 for its epoch, 2 for the number of its shares, 3 for the number of good ones, 4 for "
            + "the number of stale ones, 5 for the number of wrong ones, 6 for 1 if it has a policy, otherwise 0", () -> {
            for (int k = 1; k <= 8; k++) {
                SecretVault v = MeaningEdges.lively(k);
                String states = statesOf(v, 0);
                long[] want = {k, 2, 24 - many(states, '-'), many(states, 'g'), many(states, 's'), many(states, 'w'), 0};
                for (int what = 0; what < 7; what++) {
                    due("what " + what, v.secret(0, what), want[what]);
                }
                give(v, 0, "3");
                due("a policy", v.secret(0, 6), 1);
            }
        });
        edge(16, "Returns a property of a secret.", () -> {
            SecretVault v = MeaningEdges.lively(5);
            due("threshold", v.secret(0, 0), 5);
            due("epoch", v.secret(0, 1), 2);
            due("shares", v.secret(0, 2), 21);
            due("good, stale and wrong", v.secret(0, 3) * 10000 + v.secret(0, 4) * 100 + v.secret(0, 5), 140403);
        });
        edge(16, "Returns the property.", () -> {
            SecretVault v = vault(2);
            for (int i = 1; i <= 8; i++) {
                due("epoch", v.secret(0, 1), i);
                due("shares", v.secret(0, 2), 9 - i);
                v.refresh(0);
                v.expel(0, i - 1);
            }
        });
        edge(17, "Returns a commitment.", () -> {
            SecretVault v = new SecretVault();
            for (int slot = 0; slot < 4; slot++) {
                v.put(slot, 300 * slot, 1);
                due("slot " + slot, v.commitment(slot, 0), power(4, 300 * slot, Q));
            }
        });
        edge(17, "`index`: its number j", () -> {
            SecretVault v = vault(8);
            int[] a = polynomial(1, 123, 8);
            for (int j = 7; j >= 0; j--) {
                due("number " + j, v.commitment(0, j), power(4, a[j], Q));
            }
        });
        edge(17, "Returns the commitment.", () -> {
            SecretVault v = vault(4);
            v.refresh(0);
            int z = drawn(1, 6);
            v.reshare(0, 255, 6);
            int[] a = polynomial(z, 123, 6);
            for (int j = 0; j < 6; j++) {
                due("of the polynomial that was dealt anew", v.commitment(0, j), power(4, a[j], Q));
            }
        });
    }

    private static long many(String text, char sign) {
        return text.chars().filter(c -> c == sign).count();
    }

    // ---- 18 to 22

    private static void shares() {
        edge(18, "Returns a property of a share.", () -> {
            SecretVault v = full(8);
            v.refresh(0);
            take(v, 0, 17, 444, 2);
            take(v, 0, 18, 555, 1);
            due("wrong", v.share(0, 17, 0) * 100 + v.share(0, 17, 1) * 10 + v.share(0, 17, 2), 44422);
            due("stale", v.share(0, 18, 0) * 100 + v.share(0, 18, 1) * 10 + v.share(0, 18, 2), 55511);
            due("good", v.share(0, 16, 1) * 10 + v.share(0, 16, 2), 20);
        });
        edge(18, "Returns the property.", () -> {
            SecretVault v = full(1);
            for (int x = 1; x <= 24; x++) {
                take(v, 0, x, 40 * x, x);
            }
            for (int x = 1; x <= 24; x++) {
                due("value", v.share(0, x, 0), 40 * x);
                due("epoch", v.share(0, x, 1), x);
                due("state", v.share(0, x, 2), x == 1 ? 2 : 1);
            }
        });
        edge(19, "Returns the previous value.", () -> {
            SecretVault v = full(1);
            for (int x = 1; x <= 24; x++) {
                due("at first", v.setShare(0, x, 40 * x), 123);
            }
            for (int x = 1; x <= 24; x++) {
                due("what was set", v.setShare(0, x, 1018), 40 * x);
            }
            due("what was set", v.setShare(0, 24, 0), 1018);
        });
        edge(22, "Returns the place.", () -> {
            SecretVault v = MeaningEdges.lively(2);
            String states = statesOf(v, 0);
            int index = 0;
            for (int x = 1; x <= 24; x++) {
                if (states.charAt(x - 1) == 's' || states.charAt(x - 1) == 'w') {
                    due("index " + index, v.bad(0, index), x);
                    index++;
                }
            }
            int end = index;
            refused("no more", NONE, () -> v.bad(0, end));
        });
    }

    private static void shareTexts() {
        edge(20, "Returns a character of the text of a share, or its length.", () -> {
            SecretVault v = full(5);
            v.refresh(0);
            int[] a = polynomial(1, 123, 5);
            int[] b = polynomial(drawn(1, 4), 0, 5);
            for (int x = 1; x <= 24; x++) {
                String want = shareText(x, (at(a, x) + at(b, x)) % P, 2);
                due("length", v.shareText(0, x, -1), want.length());
                for (int i = 0; i < want.length(); i++) {
                    due("character " + i + " of " + want, v.shareText(0, x, i), want.charAt(i));
                }
            }
        });
        edge(21, "Reads the text in the buffer as the text of a share, and puts this share into a slot, in place of an earlier one "
            + "at its place.", () -> {
            Random random = new Random(1);
            for (int round = 0; round < 40; round++) {
                SecretVault v = round % 2 == 0 ? vault(1) : full(1);
                v.put(3, 5, 1);
                int slot = round % 4 < 2 ? 0 : 3;
                int place = 1 + random.nextInt(24);
                String text = shareText(place, random.nextInt(P), 1 + random.nextInt(9999));
                String before = placesOf(v, 3 - slot);
                take(v, slot, text);
                due("text", textOf(v, slot, place), text);
                due("another slot stays", placesOf(v, 3 - slot), before);
            }
        });
        edge(21, "Returns the place.", () -> {
            for (int place = 1; place <= 24; place++) {
                due("place", take(vault(1), 0, place, 1018 - place, 10 * place), place);
            }
        });
    }

    // ---- 23 and 24

    /** An int with characters of a text where the mask has bits, from the most significant byte on. */
    private static int pack(String text, int at, int mask) {
        int packed = 0;
        int next = at;
        for (int i = 3; i >= 0; i--) {
            packed <<= 8;
            if ((mask >> i & 1) == 1) {
                packed |= text.charAt(next);
                next++;
            }
        }
        return packed;
    }

    private static void buffer() {
        edge(23, "Appends up to four characters to the buffer: the bytes of an int from the most significant one to the least "
            + "significant one, where bytes that are 0 are skipped.", () -> {
            String text = "7|6&5|4&3|2&1";
            for (int first = 0; first < 16; first++) {
                for (int second = 0; second < 16; second++) {
                    SecretVault v = vault(1);
                    int n = Integer.bitCount(first);
                    int all = n + Integer.bitCount(second);
                    due("characters", v.append(pack(text, 0, first)), n);
                    due("characters", v.append(pack(text, n, second)), all);
                    if (all % 2 == 1) {
                        v.setPolicy(0);
                        due("text", policyOf(v, 0), text.substring(0, all));
                    }
                }
            }
        });
        edge(23, "`packed`: the characters", () -> {
            SecretVault v = vault(1);
            v.append('1' << 24 | 'o' << 16 | 'f' << 8 | '(');
            v.append('7' << 24 | ',' << 16 | '0' << 8 | ')');
            v.setPolicy(0);
            due("in this order", policyOf(v, 0), "1of(7,0)");
        });
        edge(24, "Makes the text in the buffer the policy of a secret; an empty buffer means no policy.", () -> {
            for (int seed = 0; seed < 40; seed++) {
                Tree tree = Tree.number(1000 + seed);
                SecretVault v = vault(1);
                v.put(2, 5, 1);
                due("none before", give(v, 2, tree.written(new Random(seed))), false);
                due("a policy", v.secret(2, 6), 1);
                for (int set = 0; set < 256; set += 5) {
                    due("set " + set, v.fulfils(2, set), tree.holds(set));
                }
                due("another secret has none", v.secret(0, 6), 0);
                due("one before", v.setPolicy(2), true);
                due("none", v.secret(2, 6), 0);
                due("none", v.fulfils(2, 0), true);
            }
        });
    }

    // ---- 26 to 28

    private static void policies() {
        edge(26, "Returns whether a set of members fulfils the policy of a secret; it does if there is no policy.", () -> {
            for (int seed = 0; seed < 60; seed++) {
                Tree tree = Tree.number(2000 + seed);
                SecretVault v = vault(1);
                due("none", v.fulfils(0, seed), true);
                give(v, 0, tree.written(new Random(seed)));
                for (int set = 0; set < 256; set++) {
                    due(tree.shortest() + " for the set " + set, v.fulfils(0, set), tree.holds(set));
                }
            }
        });
        edge(26, "Returns whether it does.", () -> {
            SecretVault v = vault(1);
            give(v, 0, "2of(0&1,2|3,9of(4),(5))&(6|7)");
            due("two of them and one", v.fulfils(0, 1 + 2 + 8 + 64), true);
            due("one of them and one", v.fulfils(0, 1 + 8 + 64), false);
            due("two of them alone", v.fulfils(0, 4 + 32), false);
            due("two of them and one", v.fulfils(0, 4 + 32 + 128), true);
        });
        edge(27, "The text is written without parentheses that are not needed: an all with one part is written as this part, a "
            + "policy with one all as this all; then, a policy with several alls that is one of several parts of an all is put in "
            + "parentheses, and nothing else is, apart from what follows an of.", () -> {
            for (int seed = 0; seed < 1500; seed++) {
                Tree tree = Tree.number(seed);
                String written = tree.written(new Random(seed));
                SecretVault v = vault(1);
                give(v, 0, written);
                due("text of " + written, policyOf(v, 0), tree.shortest());
            }
        });
        edge(27, "Returns a character of the text of the policy of a secret, or its length.", () -> {
            String text = "2of(0&(1|2),3|4,(5|6)&7)&(0|9of(1))";
            SecretVault v = vault(1);
            give(v, 0, text);
            due("length", v.policyText(0, -1), text.length());
            for (int i = 0; i < text.length(); i++) {
                due("character " + i, v.policyText(0, i), text.charAt(i));
            }
        });
        edge(27, "Returns the code of the character or the length.", () -> {
            SecretVault v = vault(1);
            give(v, 0, "((9of(((1)),(2|3))))");
            int[] codes = {57, 111, 102, 40, 49, 44, 50, 124, 51, 41};
            due("length", v.policyText(0, -1), codes.length);
            for (int i = 0; i < codes.length; i++) {
                due("code", v.policyText(0, i), codes[i]);
            }
        });
    }

    private static void policySizes() {
        edge(28, "`what`: 0 for the number of parts that are members or counts, 1 for the greatest number of counts that a part lies "
            + "in or is, 2 for the set of the members that occur", () -> {
            for (int seed = 0; seed < 600; seed++) {
                Tree tree = Tree.number(3000 + seed);
                String written = tree.written(new Random(seed));
                SecretVault v = vault(1);
                give(v, 0, written);
                due("members and counts of " + written, v.policy(0, 0), tree.membersAndCounts());
                due("counts in one another of " + written, v.policy(0, 1), tree.nestedCounts());
                due("members of " + written, v.policy(0, 2), tree.members());
            }
        });
        edge(28, "Returns a size of the policy of a secret.", () -> {
            SecretVault v = vault(1);
            v.put(1, 5, 1);
            give(v, 0, "1of(0,1of(1))");
            give(v, 1, "7&(6|5)");
            due("first", v.policy(0, 0) * 100 + v.policy(0, 1) * 10 + v.policy(0, 2), 423);
            due("second", v.policy(1, 0) * 1000 + v.policy(1, 1) * 1000 + v.policy(1, 2), 3224);
        });
        edge(28, "Returns the size.", () -> {
            SecretVault v = vault(1);
            for (int n = 1; n <= 8; n++) {
                give(v, 0, "01234567".substring(0, n).replace("", "&").substring(1, 2 * n));
                due("members", v.policy(0, 0), n);
                due("no counts", v.policy(0, 1), 0);
                due("set", v.policy(0, 2), (1 << n) - 1);
            }
        });
    }

    // ---- 30 and 32

    private static void groups() {
        edge(30, "Returns the set.", () -> {
            for (int k = 1; k <= 8; k++) {
                SecretVault v = vault(k);
                int index = 0;
                for (int set = 0; set < 256; set++) {
                    if (Integer.bitCount(set) == k) {
                        due("index " + index, v.smallest(0, index), set);
                        index++;
                    }
                }
            }
        });
        edge(32, "Returns the health of a secret: the number of its good shares divided by the number of its shares, both converted "
            + "to float.", () -> {
            SecretVault v = fourLively();
            for (int slot = 0; slot < 4; slot++) {
                String states = statesOf(v, slot);
                float health = (float) many(states, 'g') / (float) (24 - many(states, '-'));
                due("slot " + slot, v.healthBits(slot), Float.floatToIntBits(health));
            }
        });
    }

    // ---- 33 to 35

    private static void reports() {
        edge(33, "Returns the number of levels of the report.", () -> {
            SecretVault v = full(1);
            for (int bad = 0; bad < 24; bad++) {
                spoil(v, 0, bad + 1);
                int members = bad / 3 + 1;
                boolean all = bad % 3 == 2;
                due("opens", thrownBy(() -> v.open(0, (1 << members) - 1)), all ? UNSUPPORTED.getName() : "none");
                due("levels after " + (bad + 1), v.levels(), 2 + (bad + 1) / 3 * 3 - (bad < 2 ? 2 : 0));
            }
        });
        edge(33, "Returns the number of levels.", () -> {
            SecretVault v = vault(8);
            due("none", v.levels(), 0);
            refused(UNSUPPORTED, () -> v.open(0, 1));
            due("two", v.levels(), 2);
            spoil(v, 0, 1);
            refused(UNSUPPORTED, () -> v.open(0, 1));
            due("three", v.levels(), 3);
            give(v, 0, "7");
            refused(UNSUPPORTED, () -> v.open(0, 1));
            due("two", v.levels(), 2);
        });
        edge(34, "Returns a part of a level of the report.", () -> {
            SecretVault v = new SecretVault();
            v.put(2, 5, 8);
            spoil(v, 2, 10);
            refused(UNSUPPORTED, () -> v.open(2, 8 + 16));
            due("code of the first level", v.report(0, 0), 1);
            due("detail of the first level", v.report(0, 1), 2);
            due("code of the second level", v.report(1, 0), 3);
            due("detail of the second level", v.report(1, 1), 7);
            due("code of the third level", v.report(2, 0), 5);
            due("detail of the third level", v.report(2, 1), 10);
        });
        edge(34, "`level`: the level", () -> {
            SecretVault v = full(1);
            onlyPresent(v, 0);
            v.refresh(0);
            onlyPresent(v, 255);
            refused(UNSUPPORTED, () -> v.open(0, 255));
            for (int place = 1; place <= 24; place++) {
                due("level " + (place + 1), v.report(place + 1, 1), place);
                due("its code", v.report(place + 1, 0), 4);
            }
        });
        edge(34, "Returns the part.", () -> {
            SecretVault v = vault(8);
            give(v, 0, "3&4");
            for (int set = 0; set < 8; set++) {
                int s = set;
                refused(UNSUPPORTED, () -> v.open(0, s));
                due("parts", v.report(0, 0) * 1000 + v.report(0, 1) * 100 + v.report(1, 0) * 10 + v.report(1, 1), 1020 + set);
            }
        });
    }

    private static void events() {
        edge(35, "Returns the code.", () -> {
            Random random = new Random(35);
            SecretVault v = new SecretVault();
            List<Integer> codes = new ArrayList<>();
            for (int i = 0; i < 60; i++) {
                act(v, codes, random.nextInt(6), random.nextInt(4), random.nextInt(8));
                due("the latest", v.event(0), codes.get(0));
                if (i % 20 == 19) {
                    for (int index = 0; index < 20; index++) {
                        due("event " + index, v.event(index), codes.get(index));
                    }
                }
            }
        });
    }

    /** Puts a secret, does something with it, and notes the codes, the latest first. */
    private static void act(SecretVault v, List<Integer> codes, int kind, int slot, int member) {
        v.put(slot, 9, 1);
        codes.add(0, 100 + slot);
        switch (kind) {
            case 0:
                v.remove(slot);
                codes.add(0, 200 + slot);
                break;
            case 1:
                v.refresh(slot);
                codes.add(0, 300 + slot);
                break;
            case 2:
                v.reshare(slot, 255, 1 + member);
                codes.add(0, 400 + slot);
                break;
            case 3:
                v.enroll(slot, 255, member);
                codes.add(0, 500 + 10 * slot + member);
                break;
            case 4:
                v.expel(slot, member);
                codes.add(0, 600 + 10 * slot + member);
                break;
            default:
                v.open(slot, 1 << member);
                codes.add(0, 700 + slot);
        }
    }
}
