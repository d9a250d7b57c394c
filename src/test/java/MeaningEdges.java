/** What the document says before the promises, sentences that stand for all their cases at once. */
final class MeaningEdges extends Edges {
    private static final String WHAT_IT_IS = "A vault for shared secrets: secrets are divided by polynomials over a prime "
        + "among members with weights, shares are refreshed without a change of the secret, checked by commitments, enrolled "
        + "and dealt anew, opened by members who fulfil a threshold and a policy; wrong and stale shares are named, and "
        + "groups of members are counted.";

    private static final String CALLS =
        "An object is used for at most 512 calls after it has been made; what later calls answer is free.";

    static void run() {
        whatItIs();
        calls();
        numbers();
        shares();
        policies();
        opening();
        reports();
    }

    private static void whatItIs() {
        edge(1, WHAT_IT_IS, () -> {
            SecretVault v = new SecretVault();
            weigh(v, 2, 1, 1, 1, 0, 0, 0, 3);
            due("shares", v.put(1, 1000, 3), 8);
            due("by weights", placesOf(v, 1), "1 2 4 7 10 22 23 24");
            int[] a = polynomial(1, 1000, 3);
            due("by a polynomial", v.share(1, 24, 0), at(a, 24));
            v.refresh(1);
            due("refreshed", v.share(1, 24, 0), (at(a, 24) + at(polynomial(drawn(1, 2), 0, 3), 24)) % P);
            due("without a change of the secret", v.open(1, 129), 1000);
            spoil(v, 1, 4);
            makeStale(v, 1, 2);
            due("checked by commitments", statesOf(v, 1), "gg-w--s--g-----------ggg");
            due("a wrong one is named", v.bad(1, 0), 4);
            due("a stale one is named", v.bad(1, 1), 7);
            due("enrolled", v.enroll(1, 129, 1) + v.enroll(1, 129, 2), 2);
            due("dealt anew", v.reshare(1, 129, 4), 8);
            due("all are good", statesOf(v, 1), "gg-g--g--g-----------ggg");
            give(v, 1, "7&2of(0,1,2)");
            due("groups are counted", v.groups(1), 16 * 4);
            due("opened by a threshold and a policy", v.open(1, 128 + 1 + 2), 1000);
            refused("the policy", UNSUPPORTED, () -> v.open(1, 128 + 1));
            due("report", reportOf(v), "1:1 2:129");
            v.expel(1, 7);
            refused("the threshold", UNSUPPORTED, () -> v.open(1, 128 + 2 + 4));
            due("report", reportOf(v), "1:1 3:2");
        });
    }

    private interface Question {
        long of(SecretVault v);
    }

    /** The object has been used for 511 calls. */
    private static void theLastCall(String what, Question question, long want) {
        SecretVault v = vault(2);
        for (int call = 2; call <= 511; call++) {
            v.refresh(0);
        }
        due(what, question.of(v), want);
    }

    private static void calls() {
        edge(1, CALLS, () -> {
            theLastCall("open", v -> v.open(0, 255), 123);
            theLastCall("epoch", v -> v.secret(0, 1), 511);
            theLastCall("epoch of a share", v -> v.share(0, 22, 1), 511);
            theLastCall("good shares", v -> v.secret(0, 3), 8);
            theLastCall("a character of a text", v -> v.shareText(0, 22, 1), '2');
            theLastCall("the oldest event", v -> v.event(19), 300);
            theLastCall("number", v -> v.draw(), number(drawn(1, 512)));
            theLastCall("refresh", v -> v.refresh(0), 8);
            theLastCall("remove", v -> v.remove(0), 511);
            theLastCall("save", v -> v.save(), 1);
        });
        edge(1, CALLS, () -> {
            SecretVault v = vault(1);
            for (int round = 0; round < 46; round++) {
                type(v, "1of(0,1,2,3,4,5,6,7,0,1,2,3,4,5,6,7,0,1)");
                due("a policy before", v.setPolicy(0), round > 0);
            }
            due("the last policy of so many, after 507 calls", v.fulfils(0, 128), true);
            due("its length", v.policyText(0, -1), 40);
        });
    }

    private static void numbers() {
        edge(3, "To draw means that z becomes z * 1103515245 + 12345, with overflow, and the drawn number is (z >>> 16) % p.",
            () -> {
            for (int z : new int[] {1, 0, -1, MIN, MAX, 12345, -777777777}) {
                SecretVault v = new SecretVault();
                v.seed(z);
                for (int i = 1; i <= 100; i++) {
                    due("number " + i + " from " + z, v.draw(), number(drawn(z, i)));
                }
                due("z", v.seed(0), drawn(z, 100));
            }
        });
    }

    // ---- shares

    /** Slot 0 has good, wrong and stale shares, some of them at places that are not used; members 2 and 6 are absent. */
    static SecretVault lively(int threshold) {
        SecretVault v = full(threshold);
        makeStale(v, 0, 1);
        v.expel(0, 3);
        spoil(v, 0, 3);
        spoil(v, 0, 13);
        spoil(v, 0, 19);
        take(v, 0, 8, v.share(0, 8, 0), 9);
        weigh(v, 2, 3, 1, 2, 3, 0, 3, 3);
        v.setPresent(2, false);
        v.setPresent(6, false);
        return v;
    }

    private static final String LIVELY = "ggwsssgsg---wggggg" + "wggggg";

    private static void shares() {
        edge(18, "A share has a place, a value and an epoch.", () -> {
            SecretVault v = lively(3);
            for (int place : new int[] {1, 3, 4, 8, 9, 13, 24}) {
                int value = v.share(0, place, 0);
                int epoch = v.share(0, place, 1);
                String text = textOf(v, 0, place);
                due("text", text, shareText(place, value, epoch));
                v.put(1, 5, 1);
                due("place", take(v, 1, text), place);
                due("value", v.share(1, place, 0), value);
                due("epoch", v.share(1, place, 1), epoch);
            }
            due("states", statesOf(lively(3), 0), LIVELY);
        });
        edge(18, "Otherwise it is wrong if 4 to the power of its value, modulo q, is not the product of the commitments Cj to the "
            + "power of x^j mod p, for all j, modulo q, where x is its place; otherwise it is good.", () -> {
            for (int k = 1; k <= 8; k++) {
                SecretVault v = full(k);
                v.refresh(0);
                for (int x = 1; x <= 24; x++) {
                    long product = 1;
                    long exponent = 1;
                    for (int j = 0; j < k; j++) {
                        product = product * power(v.commitment(0, j), exponent, Q) % Q;
                        exponent = exponent * x % P;
                    }
                    int value = v.share(0, x, 0);
                    due("4 to the power of its value", power(4, value, Q), product);
                    due("good", v.share(0, x, 2), 0);
                    v.setShare(0, x, (value + 1 + 40 * x) % P);
                    due("wrong", v.share(0, x, 2), 2);
                }
            }
        });
        edge(9, "For each present member in ascending order and each share of it that is not stale, in ascending order of the "
            + "places, the value of this polynomial at its place is added to its value, modulo p.", () -> {
            for (int k = 1; k <= 8; k++) {
                SecretVault v = lively(k);
                int[] b = polynomial(zOf(v), 0, k);
                int[] before = new int[25];
                for (int x = 1; x <= 24; x++) {
                    before[x] = LIVELY.charAt(x - 1) == '-' ? -1 : v.share(0, x, 0);
                }
                due("shares", v.refresh(0), 3 + 3 + 3 + 3);
                for (int x = 1; x <= 24; x++) {
                    int m = (x - 1) / 3;
                    boolean stays = m == 2 || m == 6 || LIVELY.charAt(x - 1) == 's';
                    if (before[x] >= 0) {
                        due("place " + x, v.share(0, x, 0), stays ? before[x] : (before[x] + at(b, x)) % P);
                    }
                }
            }
        });
    }

    // ---- policies

    private static void policies() {
        edge(26, "A policy is a condition for a set of members.", () -> {
            for (int seed = 0; seed < 6; seed++) {
                Tree tree = Tree.number(seed);
                SecretVault v = vault(1);
                SecretVault w = full(8);
                onlyPresent(w, 0);
                expelAll(w, 0);
                weigh(w, 0, 0, 0, 0, 0, 0, 0, 0);
                give(v, 0, tree.shortest());
                give(w, 0, tree.shortest());
                for (int set = 0; set < 256; set++) {
                    due(tree.shortest() + " for the set " + set, v.fulfils(0, set), tree.holds(set));
                    due("whatever members and shares there are", w.fulfils(0, set), tree.holds(set));
                }
            }
        });
        edge(24, "The text of a policy has this form, where braces mean zero or more repetitions and characters in quotes are "
            + "meant literally:", () -> {
            for (int n = 0; n < 20; n++) {
                PolicyEdges.reads("7" + "|6".repeat(n), -1);
                PolicyEdges.reads("7" + "&6".repeat(n), -1);
                if (n < 18) {
                    PolicyEdges.reads("9of(7" + ",6".repeat(n) + ")", -1);
                }
            }
            PolicyEdges.reads("{0}", 0);
            PolicyEdges.reads("0{|1}", 1);
            PolicyEdges.reads("1of(0{,1})", 5);
            PolicyEdges.reads("\"0\"", 0);
            PolicyEdges.reads("0\"|\"1", 1);
            PolicyEdges.reads("1\"of\"(0)", 1);
        });
        edge(24, "The text of a policy has this form", () -> {
            for (int seed = 0; seed < 300; seed++) {
                Tree tree = Tree.number(seed);
                PolicyEdges.reads(tree.shortest(), -1);
                PolicyEdges.reads(tree.written(new java.util.Random(seed)), -1);
            }
        });
    }

    // ---- opening

    /** The lowest places with good shares of these members of a lively vault, at most so many. */
    static int[] goodPlaces(int members, int most) {
        int[] places = new int[most];
        int n = 0;
        for (int x = 1; x <= 24 && n < most; x++) {
            if ((members >> (x - 1) / 3) % 2 == 1 && LIVELY.charAt(x - 1) == 'g') {
                places[n] = x;
                n++;
            }
        }
        return java.util.Arrays.copyOf(places, n);
    }

    private static void opening() {
        edge(13, "To open a secret for a set of members means: the members of the set that are present are taken; those of their "
            + "shares that are good are used.", () -> {
            for (int k = 1; k <= 8; k++) {
                for (int part = 0; part < 4; part++) {
                    SecretVault v = lively(k);
                    for (int set = 64 * part; set < 64 * part + 64; set++) {
                        int s = set;
                        int used = goodPlaces(set & 255 - 4 - 64, 24).length;
                        due("set " + set, thrownBy(() -> v.open(0, s)), used >= k ? "none" : UNSUPPORTED.getName());
                        if (used < k) {
                            due("lacking", v.report(1, 1), k - used);
                        }
                    }
                }
            }
        });
        edge(13, "Otherwise the result is the value at 0 that the k used shares with the lowest places determine.", () -> {
            for (int k = 1; k <= 8; k++) {
                SecretVault v = lively(k);
                int[] values = new int[k];
                for (int set = 1; set < 256; set += 3) {
                    int[] places = goodPlaces(set & 255 - 4 - 64, k);
                    if (places.length == k && k < 4) {
                        for (int i = 0; i < k; i++) {
                            values[i] = v.share(0, places[i], 0);
                        }
                        due("set " + set, v.open(0, set), through(places, values, 0));
                    } else if (places.length == k) {
                        due("set " + set, v.open(0, set), 123);
                    }
                }
            }
        });
    }

    // ---- reports

    private static String dueReport(int members, int k) {
        StringBuilder text = new StringBuilder("1:0 3:" + (k - goodPlaces(members, 24).length));
        for (int x = 1; x <= 24; x++) {
            char state = LIVELY.charAt(x - 1);
            if ((members >> (x - 1) / 3) % 2 == 1 && (state == 's' || state == 'w')) {
                text.append(state == 's' ? " 4:" : " 5:").append(x);
            }
        }
        return text.toString();
    }

    private static void reports() {
        edge(33, "If there are too few shares: level 0 has code 1 and the slot, level 1 has code 3 and the number of shares that "
            + "are lacking; then, for each stale or wrong share of the members taken, in ascending order of the places, there is "
            + "one more level with code 4 if it is stale, 5 if it is wrong, and its place.", () -> {
            for (int set = 0; set < 256; set++) {
                int s = set;
                int taken = set & 255 - 4 - 64;
                if (goodPlaces(taken, 24).length < 8) {
                    SecretVault v = lively(8);
                    refused(UNSUPPORTED, () -> v.open(0, s));
                    due("set " + set, reportOf(v), dueReport(taken, 8));
                }
            }
        });
        edge(34, "A report has levels, numbered from 0, each of which has a code and a detail; each level is the cause of the one "
            + "before it.", () -> {
            SecretVault v = lively(8);
            refused("no level", NONE, () -> v.report(0, 0));
            refused(UNSUPPORTED, () -> v.open(0, 1 + 2 + 16));
            int[][] want = {{1, 0}, {3, 4}, {5, 3}, {4, 4}, {4, 5}, {4, 6}, {5, 13}};
            due("opening failed, for shares are lacking, for these are not good", v.levels(), want.length);
            for (int level = 0; level < want.length; level++) {
                due("code of level " + level, v.report(level, 0), want[level][0]);
                due("detail of level " + level, v.report(level, 1), want[level][1]);
            }
            refused("no more", NONE, () -> v.report(want.length, 0));
            refused("none before", NONE, () -> v.report(-1, 1));
        });
    }
}
