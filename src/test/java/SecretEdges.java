/** The edges of promises 7 to 12, 16 and 17: dealing, refreshing, enrolling, expelling, commitments. */
final class SecretEdges extends Edges {
    static void run() {
        put();
        dealing();
        remove();
        refresh();
        refreshedShares();
        reshare();
        enroll();
        expel();
        secret();
        commitment();
    }

    private static void put() {
        edge(7, "`value`: the value, 0 to 1018", () -> {
            SecretVault v = new SecretVault();
            v.put(0, 0, 1);
            due("smallest", v.open(0, 1), 0);
            v.put(1, 1018, 3);
            due("greatest", v.open(1, 7), 1018);
            for (int value : new int[] {-1, 1019, 1020, 2038, MIN, MAX}) {
                refused("value " + value, ARGUMENT, () -> v.put(2, value, 1));
                refused("value " + value, ARGUMENT, () -> v.put(0, value, 1));
            }
            due("the earlier one stays", v.open(0, 1), 0);
        });
        edge(7, "`threshold`: the threshold, 1 to 8", () -> {
            SecretVault v = new SecretVault();
            v.put(0, 9, 1);
            due("smallest", v.secret(0, 0), 1);
            v.put(0, 9, 8);
            due("greatest", v.secret(0, 0), 8);
            due("all are needed", v.open(0, ALL), 9);
            refused(UNSUPPORTED, () -> v.open(0, ALL - 1));
            SecretVault w = full(3);
            for (int threshold : new int[] {0, 9, -1, 24, MIN, MAX}) {
                refused("threshold " + threshold, ARGUMENT, () -> w.put(0, 9, threshold));
                refused("threshold " + threshold, ARGUMENT, () -> w.put(1, 9, threshold));
            }
            due("the earlier one stays", w.open(0, 1), 123);
        });
        edge(7, "Throws `IndexOutOfBoundsException` if there is no such slot", () -> {
            SecretVault v = new SecretVault();
            for (int slot : new int[] {-1, 4, MIN, MAX}) {
                refused("slot " + slot, BOUNDS, () -> v.put(slot, 9, 1));
            }
            due("first", v.put(0, 9, 1), 8);
            due("last", v.put(3, 9, 1), 8);
        });
        edge(7, "Throws `IllegalStateException` if the present members have fewer used places than the threshold says", () -> {
            for (int threshold = 1; threshold <= 8; threshold++) {
                int k = threshold;
                SecretVault v = new SecretVault();
                onlyPresent(v, (1 << k) - 1);
                due("just enough", v.put(0, 9, k), k);
                v.setPresent(0, false);
                refused("one place too few", STATE, () -> v.put(1, 9, k));
                refused("in place of an earlier one", STATE, () -> v.put(0, 8, k));
                due("it stays", v.combine(0, ALL), 9);
                refused(NONE, () -> v.secret(1, 0));
            }
            SecretVault v = new SecretVault();
            weigh(v, 3, 3, 2, 0, 0, 0, 0, 0);
            due("by weights", v.put(0, 9, 8), 8);
            v.setWeight(1, 2);
            refused("seven", STATE, () -> v.put(0, 9, 8));
            due("seven", v.put(0, 9, 7), 7);
            onlyPresent(v, 0);
            refused("none is present", STATE, () -> v.put(0, 9, 1));
            onlyPresent(v, 8 + 16 + 128);
            refused("those that are have no weight", STATE, () -> v.put(0, 9, 1));
            due("seven", v.secret(0, 2), 7);
        });
        edge(7, "Returns the number of shares.", () -> {
            SecretVault v = new SecretVault();
            weigh(v, 0, 0, 0, 0, 0, 0, 0, 1);
            due("fewest", v.put(0, 9, 1), 1);
            weigh(v, 3, 3, 3, 3, 3, 3, 3, 3);
            due("most", v.put(0, 9, 1), 24);
            v.setPresent(0, false);
            due("without an absent one", v.put(0, 9, 1), 21);
        });
        edge(7, "Puts a new secret into a slot, in place of an earlier one, without a policy, and deals it.", () -> {
            SecretVault v = full(8);
            give(v, 0, "0");
            v.refresh(0);
            v.refresh(0);
            v.refresh(0);
            v.setShare(0, 24, 0);
            weigh(v, 1, 1, 1, 1, 1, 1, 1, 1);
            v.put(0, 5, 2);
            due("threshold", v.secret(0, 0), 2);
            due("epoch", v.secret(0, 1), 1);
            due("shares", statesOf(v, 0), "g--g--g--g--g--g--g--g--");
            due("policy", v.secret(0, 6), 0);
            refused(NONE, () -> v.policyText(0, -1));
            due("commitment", v.commitment(0, 0), power(4, 5, Q));
            refused("no third commitment", NONE, () -> v.commitment(0, 2));
            due("the new value", v.open(0, 3), 5);
        });
    }

    private static void dealing() {
        edge(7, "To deal a value v with the threshold k means: the coefficients of a polynomial are a0 = v, and a1 to a(k-1), "
            + "which are drawn in this order.", () -> {
            for (int k = 1; k <= 8; k++) {
                SecretVault v = new SecretVault();
                v.seed(-5);
                v.put(0, 77, k);
                due("z after " + (k - 1) + " draws", zOf(v), drawn(-5, k - 1));
                int[] a = polynomial(-5, 77, k);
                for (int j = 0; j < k; j++) {
                    due("commitment " + j, v.commitment(0, j), power(4, a[j], Q));
                }
            }
        });
        edge(7, "there is a new share with the value of the polynomial at x, modulo p.", () -> {
            for (int k = 1; k <= 8; k += 7) {
                SecretVault v = full(k);
                int[] a = polynomial(1, 123, k);
                for (int x = 1; x <= 24; x++) {
                    due("place " + x, v.share(0, x, 0), at(a, x));
                    due("state", v.share(0, x, 2), 0);
                }
            }
        });
        edge(7, "Then, for each present member in ascending order and each of its used places x in ascending order", () -> {
            SecretVault v = new SecretVault();
            weigh(v, 2, 3, 0, 1, 3, 2, 1, 3);
            onlyPresent(v, ALL - 2 - 128);
            due("shares", v.put(0, 5, 3), 9);
            due("places", placesOf(v, 0), "1 2 10 13 14 15 16 17 19");
        });
        edge(7, "All shares of the slot are removed.", () -> {
            SecretVault v = full(3);
            onlyPresent(v, 1);
            weigh(v, 1);
            v.put(0, 5, 1);
            due("one is left", placesOf(v, 0), "1");
        });
        edge(18, "Values of polynomials are computed modulo p, commitments modulo q; all of them are from 0 to p - 1 or "
            + "q - 1.", () -> {
            boolean[] met = new boolean[P];
            for (int z = 0; z < 400; z++) {
                SecretVault v = new SecretVault();
                v.seed(z * 7919);
                weigh(v, 3, 3, 3, 3, 3, 3, 3, 3);
                v.put(0, 1018, 8);
                for (int x = 1; x <= 24; x++) {
                    due("in range", v.share(0, x, 0) >= 0 && v.share(0, x, 0) < P, true);
                    met[v.share(0, x, 0)] = true;
                }
                for (int j = 0; j < 8; j++) {
                    due("in range", v.commitment(0, j) > 0 && v.commitment(0, j) < Q, true);
                }
                due("the first place", v.share(0, 1, 0), at(polynomial(z * 7919, 1018, 8), 1));
            }
            due("the smallest and the greatest value occur", met[0] && met[1018], true);
        });
        edge(16, "The epoch of these shares and of the secret is 1 for a secret that is new, and otherwise one more than "
            + "that of the secret was.", () -> {
            SecretVault v = vault(2);
            due("new", v.secret(0, 1) * 10 + v.share(0, 22, 1), 11);
            v.reshare(0, ALL, 2);
            due("dealt anew", v.secret(0, 1) * 10 + v.share(0, 22, 1), 22);
            v.refresh(0);
            v.reshare(0, ALL, 2);
            due("dealt anew", v.secret(0, 1) * 10 + v.share(0, 22, 1), 44);
            v.put(0, 1, 1);
            due("new in place of another", v.secret(0, 1) * 10 + v.share(0, 22, 1), 11);
            v.refresh(0);
            v.remove(0);
            v.put(0, 1, 1);
            due("new after another", v.secret(0, 1) * 10 + v.share(0, 22, 1), 11);
        });
    }

    private static void remove() {
        edge(8, "Returns the epoch of the secret.", () -> {
            SecretVault v = vault(2);
            due("the smallest", v.remove(0), 1);
            v.put(0, 5, 2);
            for (int i = 0; i < 300; i++) {
                v.refresh(0);
            }
            due("a great one", v.remove(0), 301);
        });
        edge(8, "Empties a slot.", () -> {
            SecretVault v = full(2);
            give(v, 0, "0|1");
            for (int slot = 1; slot < 4; slot++) {
                v.put(slot, slot, 2);
            }
            v.remove(0);
            refused(NONE, () -> v.secret(0, 0));
            refused(NONE, () -> v.share(0, 1, 0));
            refused(NONE, () -> v.fulfils(0, ALL));
            due("the others stay", v.save(), 3);
            due("the last", v.open(3, ALL), 3);
            due("shares of the others", v.member(0, 2), 9);
        });
        edge(8, "Throws `java` .util.NoSuchElementException if it is empty", () -> {
            SecretVault v = new SecretVault();
            for (int slot = 0; slot < 4; slot++) {
                int s = slot;
                refused("at first", NONE, () -> v.remove(s));
                v.put(slot, 5, 1);
                v.remove(slot);
                refused("a second time", NONE, () -> v.remove(s));
            }
        });
        edge(8, "Throws `IndexOutOfBoundsException` if there is no such slot", () -> {
            SecretVault v = vault(2);
            for (int slot : new int[] {-1, 4, MIN, MAX}) {
                refused("slot " + slot, BOUNDS, () -> v.remove(slot));
            }
            v.put(3, 5, 1);
            due("first", v.remove(0), 1);
            due("last", v.remove(3), 1);
        });
    }

    private static void refresh() {
        edge(9, "Throws `IndexOutOfBoundsException` if there is no such slot", () -> {
            SecretVault v = vault(2);
            for (int slot : new int[] {-1, 4, MIN, MAX}) {
                refused("slot " + slot, BOUNDS, () -> v.refresh(slot));
            }
            v.put(3, 5, 1);
            due("first", v.refresh(0), 8);
            due("last", v.refresh(3), 8);
        });
        edge(9, "Throws `java` .util.NoSuchElementException if it is empty", () -> {
            SecretVault v = vault(2);
            for (int slot = 1; slot < 4; slot++) {
                int s = slot;
                refused(NONE, () -> v.refresh(s));
            }
            v.remove(0);
            refused(NONE, () -> v.refresh(0));
        });
        edge(9, "Returns the number of shares whose epoch increased.", () -> {
            SecretVault v = full(3);
            due("all", v.refresh(0), 24);
            v.setPresent(7, false);
            due("without an absent one", v.refresh(0), 21);
            v.setPresent(7, true);
            due("without those that became stale", v.refresh(0), 21);
            onlyPresent(v, 128);
            due("only stale ones", v.refresh(0), 0);
            onlyPresent(v, 0);
            due("none is present", v.refresh(0), 0);
            due("the epoch increases all the same", v.secret(0, 1), 6);
            expelAll(v, 0);
            onlyPresent(v, ALL);
            due("no shares", v.refresh(0), 0);
            due("the epoch increases all the same", v.secret(0, 1), 7);
        });
        edge(9, "The coefficients b1 to b(k-1) are drawn in this order, and b0 is 0.", () -> {
            for (int k = 1; k <= 8; k++) {
                SecretVault v = full(k);
                v.seed(MAX);
                v.refresh(0);
                due("z after " + (k - 1) + " draws", zOf(v), drawn(MAX, k - 1));
                int[] a = polynomial(1, 123, k);
                int[] b = polynomial(MAX, 0, k);
                for (int x = 1; x <= 24; x++) {
                    due("place " + x, v.share(0, x, 0), (at(a, x) + at(b, x)) % P);
                }
                due("the secret does not change", v.open(0, ALL), 123);
            }
        });
        edge(9, "with the threshold 1 nothing is drawn.", () -> {
            SecretVault v = full(1);
            v.seed(99);
            due("shares", v.refresh(0), 24);
            due("z", zOf(v), 99);
            due("commitment", v.commitment(0, 0), power(4, 123, Q));
            for (int x = 1; x <= 24; x++) {
                due("place " + x, v.share(0, x, 0) * 10 + v.share(0, x, 2), 1230);
            }
        });
        edge(9, "Each commitment j is multiplied by 4 to the power of bj, modulo q.", () -> {
            SecretVault v = vault(8);
            int[] a = polynomial(1, 123, 8);
            long[] want = new long[8];
            for (int j = 0; j < 8; j++) {
                want[j] = power(4, a[j], Q);
            }
            int z = drawn(1, 7);
            for (int round = 0; round < 20; round++) {
                v.refresh(0);
                int[] b = polynomial(z, 0, 8);
                z = drawn(z, 7);
                for (int j = 0; j < 8; j++) {
                    want[j] = want[j] * power(4, b[j], Q) % Q;
                    due("commitment " + j + " after " + (round + 1), v.commitment(0, j), want[j]);
                }
            }
            due("all are good", v.secret(0, 3), 8);
        });
    }

    private static void refreshedShares() {
        edge(9, "the value of this polynomial at its place is added to its value, modulo p.", () -> {
            for (int x = 1; x <= 24; x++) {
                SecretVault v = full(4);
                v.seed(4711);
                int b = at(polynomial(4711, 0, 4), x);
                v.setShare(0, x, 1018 - b);
                v.refresh(0);
                due("the greatest value", v.share(0, x, 0), 1018);
                SecretVault w = full(4);
                w.seed(4711);
                w.setShare(0, x, (1019 - b) % P);
                w.refresh(0);
                due("it wraps around to 0", w.share(0, x, 0), 0);
            }
        });
        edge(9, "For each present member in ascending order and each share of it that is not stale", () -> {
            SecretVault v = full(3);
            v.refresh(0);
            int[] b = polynomial(zOf(v), 0, 3);
            v.setPresent(4, false);
            take(v, 0, 1, 10, 1);
            take(v, 0, 2, 10, 3);
            take(v, 0, 3, 10, 2);
            int good = v.share(0, 22, 0);
            int absent = v.share(0, 15, 0);
            due("shares", v.refresh(0), 24 - 2 - 3);
            due("an epoch less stays", textOf(v, 0, 1), shareText(1, 10, 1));
            due("an epoch more stays", textOf(v, 0, 2), shareText(2, 10, 3));
            due("a wrong one is refreshed", textOf(v, 0, 3), shareText(3, (10 + at(b, 3)) % P, 3));
            due("an absent member's stays", textOf(v, 0, 15), shareText(15, absent, 2));
            due("a good one is refreshed", textOf(v, 0, 22), shareText(22, (good + at(b, 22)) % P, 3));
        });
        edge(9, "The epoch of the secret, and of these shares, increases by 1; other shares stay as they are.", () -> {
            SecretVault v = vault(2);
            makeStale(v, 0, 0);
            makeStale(v, 0, 7);
            due("secret", v.secret(0, 1), 3);
            due("the first", v.share(0, 1, 1), 1);
            due("the last", v.share(0, 22, 1), 2);
            due("another", v.share(0, 4, 1), 3);
            due("the first stays", v.share(0, 1, 0), at(polynomial(1, 123, 2), 1));
        });
        edge(9, "Refreshing concerns wrong shares, too", () -> {
            SecretVault v = vault(2);
            v.setShare(0, 4, 7);
            v.seed(1);
            due("shares", v.refresh(0), 8);
            due("value", v.share(0, 4, 0), (7 + at(polynomial(1, 0, 2), 4)) % P);
            due("still wrong", v.share(0, 4, 2), 2);
        });
        edge(9, "Shares at places that are no longer used stay, count, are refreshed and can be used in opening.", () -> {
            SecretVault v = full(3);
            weigh(v, 0, 0, 0, 0, 0, 0, 0, 0);
            due("they stay", placesOf(v, 0).length(), "1 2 3 4 5 6 7 8 9 ".length() + 15 * 3 - 1);
            due("they count", v.secret(0, 2) + v.member(7, 2), 24 + 3);
            due("they are refreshed", v.refresh(0), 24);
            due("they are good", v.secret(0, 3), 24);
            due("they can be used in opening", v.open(0, 128), 123);
            due("and count for sets", v.groups(0), 255);
        });
        edge(18, "A share is stale if its epoch is not that of the secret.", () -> {
            SecretVault v = full(2);
            for (int i = 0; i < 9; i++) {
                v.refresh(0);
            }
            int value = v.share(0, 24, 0);
            int[][] rows = {{1, 1}, {9, 1}, {10, 0}, {11, 1}, {9999, 1}};
            for (int[] row : rows) {
                take(v, 0, 24, value, row[0]);
                due("epoch " + row[0] + " of 10", v.share(0, 24, 2), row[1]);
            }
        });
        edge(18, "A share with a greater epoch is stale as well.", () -> {
            SecretVault v = vault(2);
            int value = v.share(0, 4, 0);
            take(v, 0, 4, value, 2);
            due("one more", v.share(0, 4, 2), 1);
            due("it counts", v.secret(0, 4), 1);
            onlyPresent(v, ALL - 2);
            v.refresh(0);
            due("until the secret has its epoch", v.share(0, 4, 2) != 1, true);
        });
        edge(18, "Otherwise it is wrong if 4 to the power of its value, modulo q, is not the product", () -> {
            int right = at(polynomial(1, 123, 8), 24);
            for (int value = 0; value < P; value++) {
                SecretVault v = full(8);
                v.setShare(0, 24, value);
                due("value " + value, v.share(0, 24, 2), value == right ? 0 : 2);
            }
        });
        edge(18, "Otherwise it is wrong if 4 to the power of its value, modulo q, is not the product", () -> {
            SecretVault v = vault(2);
            v.setShare(0, 4, 0);
            v.setPresent(1, false);
            due("wrong", v.share(0, 4, 2), 2);
            v.refresh(0);
            due("stale comes before wrong", v.share(0, 4, 2), 1);
            due("and counts as stale alone", v.secret(0, 4) * 10 + v.secret(0, 5), 10);
        });
    }

    private static void reshare() {
        edge(10, "`threshold`: the new threshold, 1 to 8", () -> {
            SecretVault v = vault(3);
            due("smallest", v.reshare(0, ALL, 1), 8);
            due("smallest", v.secret(0, 0), 1);
            refused("one commitment", NONE, () -> v.commitment(0, 1));
            due("one share opens", v.open(0, 128), 123);
            due("greatest", v.reshare(0, 1, 8), 8);
            due("greatest", v.secret(0, 0), 8);
            due("eight commitments", v.commitment(0, 7) > 0, true);
            refused("seven shares do not open", UNSUPPORTED, () -> v.open(0, 127));
            due("eight do", v.open(0, ALL), 123);
            for (int threshold : new int[] {0, 9, -1, MIN, MAX}) {
                refused("threshold " + threshold, ARGUMENT, () -> v.reshare(0, ALL, threshold));
            }
            due("it stays", v.secret(0, 0), 8);
        });
        edge(10, "Throws `IllegalArgumentException` if a bit is set for no member, or the threshold is out of range", () -> {
            SecretVault v = vault(1);
            for (int set : new int[] {256, -1, 257, 511, 65536, 65537, MIN, MAX, MIN + 1}) {
                refused("set " + set, ARGUMENT, () -> v.reshare(0, set, 1));
            }
            due("the greatest set", v.reshare(0, 255, 1), 8);
            due("one bit", v.reshare(0, 128, 1), 8);
            refused("the empty set has no shares", UNSUPPORTED, () -> v.reshare(0, 0, 1));
        });
        edge(10, "Throws `UnsupportedOperationException` if opening fails; this leaves a report", () -> {
            for (int k = 1; k <= 8; k++) {
                SecretVault v = vault(k);
                int few = (1 << k - 1) - 1;
                refused("one share too few", UNSUPPORTED, () -> v.reshare(0, few, 1));
                due("report", reportOf(v), "1:0 3:1");
                due("it stays", v.secret(0, 0) * 10 + v.secret(0, 1), k * 10 + 1);
                due("just enough", v.reshare(0, 2 * few + 1, 1), 8);
                due("report", reportOf(v), "1:0 3:1");
            }
            SecretVault v = vault(2);
            give(v, 0, "7");
            refused("the policy", UNSUPPORTED, () -> v.reshare(0, 127, 1));
            due("report", reportOf(v), "1:0 2:127");
        });
        edge(10, "Throws `IllegalStateException` if the present members have fewer used places than the new threshold "
            + "says", () -> {
            for (int threshold = 2; threshold <= 8; threshold++) {
                int k = threshold;
                SecretVault v = vault(1);
                onlyPresent(v, (1 << k) - 2);
                refused("one place too few", STATE, () -> v.reshare(0, ALL, k));
                due("it stays", v.secret(0, 1), 1);
                due("z stays", zOf(v), 1);
                due("no report", v.levels(), 0);
                v.setPresent(0, true);
                due("just enough", v.reshare(0, ALL, k), k);
            }
            SecretVault v = vault(1);
            weigh(v, 0, 0, 0, 0, 0, 0, 0, 0);
            refused("no used place", STATE, () -> v.reshare(0, ALL, 1));
        });
        edge(10, "Opens a secret for a set of members and deals the result anew with another threshold; the policy stays.",
            () -> {
            SecretVault v = full(3);
            v.reshare(0, ALL, 3);
            due("none stays none", v.secret(0, 6), 0);
            give(v, 0, "0&(1|2)");
            v.setPresent(3, false);
            int z = zOf(v);
            due("the same threshold", v.reshare(0, 3, 3), 21);
            due("policy", policyOf(v, 0), "0&(1|2)");
            int[] a = polynomial(z, 123, 3);
            due("z", zOf(v), drawn(z, 2));
            due("first", v.share(0, 1, 0), at(a, 1));
            due("last", v.share(0, 24, 0), at(a, 24));
            due("the absent member's are removed", statesOf(v, 0), "ggggggggg---gggggggggggg");
        });
    }

    private static void enroll() {
        edge(11, "Returns the number of shares given.", () -> {
            for (int weight = 0; weight <= 3; weight++) {
                SecretVault v = vault(3);
                v.setWeight(7, weight);
                v.expel(0, 7);
                due("as many as used places", v.enroll(0, 127, 7), weight);
                due("shares", v.secret(0, 2), 7 + weight);
                due("all are good", v.secret(0, 3), 7 + weight);
                due("all are good already", v.enroll(0, 127, 7), 0);
                due("an event all the same", v.event(0) * 10 + (v.event(1) == 507 ? 1 : 0), 5071);
            }
        });
        edge(11, "gives a member, for each used place at which it has no share that is good, a share with the value at this "
            + "place that the same k shares determine, and with the epoch of the secret, in place of an earlier one.", () -> {
            SecretVault v = full(8);
            int[] a = polynomial(1, 123, 8);
            due("all are good", v.enroll(0, ALL, 7), 0);
            v.setShare(0, 22, 0);
            due("a wrong one", v.enroll(0, ALL, 7), 1);
            take(v, 0, 23, at(a, 23), 2);
            due("one with a greater epoch", v.enroll(0, ALL, 7), 1);
            due("the epoch of the secret", v.share(0, 23, 1), 1);
            v.expel(0, 7);
            due("none", v.enroll(0, ALL, 7), 3);
            for (int x = 22; x <= 24; x++) {
                due("value", v.share(0, x, 0), at(a, x));
                due("good", v.share(0, x, 2), 0);
            }
            makeStale(v, 0, 0);
            due("stale ones", v.enroll(0, ALL, 0), 3);
            due("epoch", v.share(0, 1, 1), 2);
            due("all are good", statesOf(v, 0), "gggggggggggggggggggggggg");
        });
        edge(11, "gives a member, for each used place", () -> {
            SecretVault v = full(3);
            v.setWeight(1, 1);
            spoil(v, 0, 4);
            spoil(v, 0, 5);
            spoil(v, 0, 6);
            spoil(v, 0, 3);
            spoil(v, 0, 7);
            due("one", v.enroll(0, ALL, 1), 1);
            due("places that are not used, and others', stay", statesOf(v, 0), "ggwgwwwggggggggggggggggg");
        });
        edge(11, "A member that is absent can be enrolled.", () -> {
            SecretVault v = vault(3);
            onlyPresent(v, 7);
            v.setWeight(7, 3);
            due("two more", v.enroll(0, ALL, 7), 2);
            due("good", statesOf(v, 0).substring(21), "ggg");
        });
        edge(11, "Throws `IndexOutOfBoundsException` if there is no such slot or member", () -> {
            SecretVault v = vault(3);
            for (int bad : new int[] {-1, 8, MIN, MAX}) {
                refused("member " + bad, BOUNDS, () -> v.enroll(0, ALL, bad));
                refused("slot " + bad, BOUNDS, () -> v.enroll(bad, ALL, 0));
            }
            refused("slot 4", BOUNDS, () -> v.enroll(4, ALL, 0));
            v.put(3, 5, 1);
            v.enroll(3, ALL, 7);
            due("the last ones", v.event(0), 537);
            v.enroll(0, ALL, 0);
            due("the first ones", v.event(0), 500);
        });
        edge(11, "Throws `IllegalArgumentException` if a bit is set for no member", () -> {
            SecretVault v = vault(1);
            for (int set : new int[] {256, -1, 257, 65537, MIN, MAX}) {
                refused("set " + set, ARGUMENT, () -> v.enroll(0, set, 0));
            }
            due("the greatest set", v.enroll(0, 255, 0), 0);
        });
        edge(11, "Throws `UnsupportedOperationException` if opening fails; this leaves a report", () -> {
            for (int k = 1; k <= 8; k++) {
                SecretVault v = vault(k);
                v.setWeight(7, 3);
                int few = (1 << k - 1) - 1;
                refused("one share too few", UNSUPPORTED, () -> v.enroll(0, few, 7));
                due("report", reportOf(v), "1:0 3:1");
                due("no share", v.secret(0, 2), 8);
                due("just enough", v.enroll(0, 2 * few + 1, 7), 2);
            }
            SecretVault v = vault(1);
            refused("the empty set", UNSUPPORTED, () -> v.enroll(0, 0, 0));
        });
    }

    private static void expel() {
        edge(12, "Returns the number of shares removed.", () -> {
            SecretVault v = new SecretVault();
            weigh(v, 0, 1, 2, 3, 3, 2, 1, 0);
            v.put(0, 5, 1);
            int[] want = {0, 1, 2, 3, 3, 2, 1, 0};
            for (int m = 0; m < 8; m++) {
                due("of member " + m, v.expel(0, m), want[m]);
                due("a second time", v.expel(0, m), 0);
            }
            due("none is left", v.secret(0, 2), 0);
            due("the secret stays", v.secret(0, 1), 1);
        });
        edge(12, "Removes all shares of a member from a slot.", () -> {
            for (int m = 0; m < 8; m++) {
                SecretVault v = full(3);
                v.put(1, 5, 1);
                weigh(v, 1, 1, 1, 1, 1, 1, 1, 1);
                v.setPresent(m, false);
                due("used or not, present or absent", v.expel(0, m), 3);
                StringBuilder want = new StringBuilder("gggggggggggggggggggggggg");
                for (int i = 0; i < 3; i++) {
                    want.setCharAt(3 * m + i, '-');
                }
                due("no other one's", statesOf(v, 0), want.toString());
                due("of no other slot", v.secret(1, 2), 24);
            }
            SecretVault v = full(3);
            v.setShare(0, 4, 0);
            take(v, 0, 5, 9, 9);
            due("whatever their states are", v.expel(0, 1), 3);
        });
        edge(12, "Throws `IndexOutOfBoundsException` if there is no such slot or member", () -> {
            SecretVault v = full(3);
            for (int bad : new int[] {-1, 8, MIN, MAX}) {
                refused("member " + bad, BOUNDS, () -> v.expel(0, bad));
                refused("slot " + bad, BOUNDS, () -> v.expel(bad, 0));
            }
            refused("slot 4", BOUNDS, () -> v.expel(4, 0));
            due("all stay", v.secret(0, 2), 24);
            v.put(3, 5, 1);
            due("the last slot", v.expel(3, 7), 3);
        });
        edge(12, "Throws `java` .util.NoSuchElementException if the slot is empty", () -> {
            SecretVault v = vault(3);
            refused(NONE, () -> v.expel(1, 0));
            refused(NONE, () -> v.expel(3, 7));
        });
    }

    private static void secret() {
        edge(16, "Throws `IllegalArgumentException` if what is not from 0 to 6", () -> {
            SecretVault v = vault(3);
            for (int what : new int[] {-1, 7, 8, MIN, MAX}) {
                refused("what " + what, ARGUMENT, () -> v.secret(0, what));
            }
            int[] want = {3, 1, 8, 8, 0, 0, 0};
            for (int what = 0; what < 7; what++) {
                due("what " + what, v.secret(0, what), want[what]);
            }
        });
        edge(16, "2 for the number of its shares, 3 for the number of good ones, 4 for the number of stale ones, 5 for the "
            + "number of wrong ones", () -> {
            SecretVault v = full(3);
            counts(v, 24, 24, 0, 0);
            for (int place = 1; place <= 24; place++) {
                v.setShare(0, place, (at(polynomial(1, 123, 3), place) + 1018) % P);
                counts(v, 24, 24 - place, 0, place);
            }
            onlyPresent(v, 0);
            v.refresh(0);
            counts(v, 24, 0, 24, 0);
            for (int m = 0; m < 8; m++) {
                v.expel(0, m);
                counts(v, 21 - 3 * m, 0, 21 - 3 * m, 0);
            }
        });
        edge(16, "6 for 1 if it has a policy, otherwise 0", () -> {
            SecretVault v = vault(3);
            due("none", v.secret(0, 6), 0);
            give(v, 0, "0");
            due("one", v.secret(0, 6), 1);
            give(v, 0, "");
            due("none", v.secret(0, 6), 0);
        });
        edge(16, "Throws `java` .util.NoSuchElementException if the slot is empty", () -> {
            SecretVault v = new SecretVault();
            for (int what = 0; what < 7; what++) {
                int w = what;
                refused("what " + what, NONE, () -> v.secret(0, w));
                refused("what " + what, BOUNDS, () -> v.secret(4, w));
                refused("what " + what, BOUNDS, () -> v.secret(-1, w));
            }
        });
    }

    private static void counts(SecretVault v, int all, int good, int stale, int wrongOnes) {
        due("all", v.secret(0, 2), all);
        due("good", v.secret(0, 3), good);
        due("stale", v.secret(0, 4), stale);
        due("wrong", v.secret(0, 5), wrongOnes);
    }

    private static void commitment() {
        edge(17, "The commitment j, for j from 0 to k - 1, is 4 to the power of aj, modulo q.", () -> {
            int[][] rows = {{0, 1}, {1, 4}, {5, 1024}, {6, 18}, {1018, 510}};
            for (int[] row : rows) {
                SecretVault v = new SecretVault();
                v.put(0, row[0], 1);
                due("4 to the power of " + row[0], v.commitment(0, 0), row[1]);
            }
        });
        edge(17, "Throws `java` .util.NoSuchElementException if the slot is empty or has no such commitment", () -> {
            for (int threshold = 1; threshold <= 8; threshold++) {
                int k = threshold;
                SecretVault v = vault(8);
                v.put(0, 123, k);
                due("the first", v.commitment(0, 0), power(4, 123, Q));
                due("the last", v.commitment(0, k - 1) > 0, true);
                refused("one too many", NONE, () -> v.commitment(0, k));
                refused("one too few", NONE, () -> v.commitment(0, -1));
                refused(NONE, () -> v.commitment(0, MAX));
                refused(NONE, () -> v.commitment(0, MIN));
                refused("empty", NONE, () -> v.commitment(1, 0));
            }
        });
        edge(17, "Throws `IndexOutOfBoundsException` if there is no such slot", () -> {
            SecretVault v = vault(3);
            v.put(3, 0, 1);
            due("last", v.commitment(3, 0), 1);
            refused(BOUNDS, () -> v.commitment(4, 0));
            refused(BOUNDS, () -> v.commitment(-1, 0));
        });
    }
}
