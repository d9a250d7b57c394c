/** The edges of promises 13 to 15: opening, combining, agreeing. */
final class OpeningEdges extends Edges {
    static void run() {
        openRange();
        openShares();
        openPolicy();
        combine();
        interpolation();
        agree();
    }

    private static void openRange() {
        edge(13, "Throws `IndexOutOfBoundsException` if there is no such slot", () -> {
            SecretVault v = new SecretVault();
            v.put(0, 1, 1);
            v.put(3, 1018, 1);
            due("first", v.open(0, 1), 1);
            due("last", v.open(3, 128), 1018);
            for (int slot : new int[] {-1, 4, MIN, MAX}) {
                refused("slot " + slot, BOUNDS, () -> v.open(slot, 1));
            }
        });
        edge(13, "Throws `IllegalArgumentException` if a bit is set for no member", () -> {
            SecretVault v = vault(1);
            for (int set : new int[] {256, 257, 511, -1, -256, 65536, 1 << 30, MIN, MAX, MIN + 255}) {
                refused("set " + set, ARGUMENT, () -> v.open(0, set));
            }
            for (int m = 0; m < 8; m++) {
                due("bit " + m, v.open(0, 1 << m), 123);
            }
            due("all bits", v.open(0, 255), 123);
            due("no report", v.levels(), 0);
        });
        edge(13, "Throws `java` .util.NoSuchElementException if the slot is empty", () -> {
            SecretVault v = vault(1);
            refused(NONE, () -> v.open(1, 255));
            refused(NONE, () -> v.open(3, 0));
            v.remove(0);
            refused(NONE, () -> v.open(0, 255));
            due("no report", v.levels(), 0);
        });
        edge(13, "Returns the result.", () -> {
            for (int value : new int[] {0, 1, 1017, 1018}) {
                for (int k = 1; k <= 8; k++) {
                    SecretVault v = new SecretVault();
                    v.put(2, value, k);
                    due("value " + value + ", threshold " + k, v.open(2, 255), value);
                }
            }
        });
    }

    private static void openShares() {
        edge(13, "or if fewer shares than the threshold are used.", () -> {
            for (int k = 1; k <= 8; k++) {
                SecretVault v = vault(k);
                int few = (1 << k - 1) - 1;
                refused("one too few of " + k, UNSUPPORTED, () -> v.open(0, few));
                due("report", reportOf(v), "1:0 3:1");
                due("just enough", v.open(0, 2 * few + 1), 123);
                refused("none", UNSUPPORTED, () -> v.open(0, 0));
                due("report", reportOf(v), "1:0 3:" + k);
                SecretVault w = full(k);
                int members = (k + 2) / 3;
                due("by weights, the last members", w.open(0, 255 << 8 - members & 255), 123);
                int fewer = (k - 1) / 3;
                refused("by weights", UNSUPPORTED, () -> w.open(0, (1 << fewer) - 1));
                due("report", reportOf(w), "1:0 3:" + (k - 3 * fewer));
            }
        });
        edge(13, "the members of the set that are present are taken", () -> {
            SecretVault v = vault(3);
            v.setPresent(7, false);
            refused("an absent one", UNSUPPORTED, () -> v.open(0, 128 + 2 + 1));
            due("report", reportOf(v), "1:0 3:1");
            due("without it", v.open(0, 64 + 2 + 1), 123);
            onlyPresent(v, 0);
            refused("all are absent", UNSUPPORTED, () -> v.open(0, 255));
            due("report", reportOf(v), "1:0 3:3");
            onlyPresent(v, 7);
            due("those that are present suffice", v.open(0, 255), 123);
            v.setPresent(2, false);
            refused("one of them less", UNSUPPORTED, () -> v.open(0, 255));
        });
        edge(13, "those of their shares that are good are used.", () -> {
            for (int place = 1; place <= 7; place += 3) {
                SecretVault v = vault(3);
                spoil(v, 0, place);
                refused("a wrong one", UNSUPPORTED, () -> v.open(0, 7));
                due("report", reportOf(v), "1:0 3:1 5:" + place);
                due("another one for it", v.open(0, 15), 123);
                SecretVault w = vault(3);
                makeStale(w, 0, place / 3);
                refused("a stale one", UNSUPPORTED, () -> w.open(0, 7));
                due("report", reportOf(w), "1:0 3:1 4:" + place);
                due("another one for it", w.open(0, 15), 123);
            }
            SecretVault v = full(8);
            for (int place = 1; place <= 16; place++) {
                spoil(v, 0, place);
            }
            due("the last eight are good", v.open(0, 255), 123);
            spoil(v, 0, 24);
            refused("the last seven", UNSUPPORTED, () -> v.open(0, 255));
            due("levels", v.levels(), 2 + 17);
        });
        edge(13, "the value at 0 that the k used shares with the lowest places determine.", () -> {
            for (int k = 1; k <= 8; k++) {
                SecretVault v = full(k);
                v.refresh(0);
                due("of all", v.open(0, 255), 123);
                for (int m = 0; 3 * (8 - m) >= k; m++) {
                    due("without the lowest", v.open(0, 255 << m & 255), 123);
                }
            }
        });
    }

    private static void openPolicy() {
        edge(13, "It fails if there is a policy that the members taken do not fulfil", () -> {
            SecretVault v = vault(1);
            give(v, 0, "2of(5,6,7)");
            refused("one of two", UNSUPPORTED, () -> v.open(0, 63));
            due("report", reportOf(v), "1:0 2:63");
            due("two", v.open(0, 96), 123);
            v.setPresent(6, false);
            refused("one of them is absent", UNSUPPORTED, () -> v.open(0, 96));
            due("report", reportOf(v), "1:0 2:32");
            refused("the empty set", UNSUPPORTED, () -> v.open(0, 0));
            due("report", reportOf(v), "1:0 2:0");
            give(v, 0, "");
            due("without a policy", v.open(0, 32), 123);
        });
        edge(13, "A policy must be fulfilled by the members that are taken; if both fail, the report is that of the policy.",
            () -> {
            SecretVault v = vault(2);
            give(v, 0, "0");
            refused("both fail", UNSUPPORTED, () -> v.open(0, 2));
            due("report", reportOf(v), "1:0 2:2");
            refused("the shares", UNSUPPORTED, () -> v.open(0, 1));
            due("report", reportOf(v), "1:0 3:1");
            refused("the policy", UNSUPPORTED, () -> v.open(0, 6));
            due("report", reportOf(v), "1:0 2:6");
            due("neither", v.open(0, 3), 123);
            v.expel(0, 0);
            due("a member without shares fulfils it, too", v.open(0, 7), 123);
            refused("but gives none", UNSUPPORTED, () -> v.open(0, 3));
            due("report", reportOf(v), "1:0 3:1");
        });
    }

    private static void combine() {
        edge(14, "Throws `IllegalStateException` if they have fewer than k shares", () -> {
            for (int k = 1; k <= 8; k++) {
                SecretVault v = vault(k);
                int few = (1 << k - 1) - 1;
                refused("one too few of " + k, STATE, () -> v.combine(0, few));
                due("just enough", v.combine(0, 2 * few + 1), 123);
                refused("none", STATE, () -> v.combine(0, 0));
                expelAll(v, 0);
                refused("no shares", STATE, () -> v.combine(0, 255));
            }
        });
        edge(14, "Returns the value at 0 that shares determine, whatever their states are: the k shares of a set of members, "
            + "present or absent, with the lowest places.", () -> {
            SecretVault v = vault(2);
            onlyPresent(v, 0);
            give(v, 0, "0&1&2&3&4&5&6&7");
            due("absent ones, without regard to the policy", v.combine(0, 192), 123);
            onlyPresent(v, 2);
            v.refresh(0);
            int[] places = {1, 4};
            int[] values = {v.share(0, 1, 0), v.share(0, 4, 0)};
            due("a stale one and a good one", v.combine(0, 255), through(places, values, 0));
            due("both lowest are stale", v.combine(0, 253), 123);
            v.setShare(0, 1, 0);
            v.setShare(0, 4, 1018);
            due("the lowest are wrong", v.combine(0, 255), through(places, new int[] {0, 1018}, 0));
            v.setShare(0, 7, 55);
            due("the third does not count", v.combine(0, 255), through(places, new int[] {0, 1018}, 0));
            due("but does without the first", v.combine(0, 254), through(new int[] {4, 7}, new int[] {1018, 55}, 0));
            due("no report", v.levels(), 0);
        });
        edge(14, "Throws `IllegalArgumentException` if a bit is set for no member", () -> {
            SecretVault v = vault(1);
            for (int set : new int[] {256, 257, -1, 65537, MIN, MAX}) {
                refused("set " + set, ARGUMENT, () -> v.combine(0, set));
            }
            due("the last bit", v.combine(0, 128), 123);
            due("all bits", v.combine(0, 255), 123);
            refused(BOUNDS, () -> v.combine(4, 255));
            refused(BOUNDS, () -> v.combine(-1, 255));
            refused(NONE, () -> v.combine(3, 255));
        });
    }

    private static void interpolation() {
        edge(14, "The inverse of a number modulo p that is not 0 is the number whose product with it is 1 modulo p.", () -> {
            for (int low = 1; low <= 24; low++) {
                for (int high = low + 1; high <= 24; high++) {
                    SecretVault v = vault(2);
                    expelAll(v, 0);
                    take(v, 0, low, 1018, 1);
                    take(v, 0, high, 0, 1);
                    due("places " + low + " and " + high, v.combine(0, 255),
                        through(new int[] {low, high}, new int[] {1018, 0}, 0));
                }
            }
        });
        edge(14, "The value at x that k shares with different places determine is the value at x, modulo p, of the polynomial "
            + "of a degree less than k that has the values of the shares at their places.", () -> {
            for (int k = 1; k <= 8; k++) {
                int[] low = new int[k];
                int[] high = new int[k];
                int[] values = new int[k];
                int first = 24 - (k + 2) / 3 * 3 + 1;
                for (int i = 0; i < k; i++) {
                    low[i] = i + 1;
                    high[i] = first + i;
                    values[i] = i % 3 == 0 ? 1018 : i % 3 == 1 ? 0 : 509 + i;
                }
                SecretVault v = full(k);
                SecretVault w = full(k);
                for (int i = 0; i < k; i++) {
                    v.setShare(0, low[i], values[i]);
                    w.setShare(0, high[i], values[i]);
                }
                due("the lowest places", v.combine(0, 255), through(low, values, 0));
                due("the highest places", w.combine(0, 255 << 8 - (k + 2) / 3 & 255), through(high, values, 0));
            }
        });
        edge(14, "The value at x that k shares with different places determine", () -> {
            SecretVault v = vault(1);
            for (int value : new int[] {0, 1, 1018}) {
                v.setShare(0, 22, value);
                due("one share determines its own value", v.combine(0, 128), value);
            }
        });
    }

    private static void agree() {
        edge(15, "this is so if there are at most k of them.", () -> {
            for (int k = 1; k <= 7; k++) {
                SecretVault v = vault(k);
                int next = 3 * k + 1;
                for (int x = 1; x <= 22; x += 3) {
                    v.setShare(0, x, x * x * x * 31 % P * x % P);
                }
                due("none", v.agree(0, 0), true);
                due("one less than k", v.agree(0, (1 << k - 1) - 1), true);
                v.combine(0, ALL);
                due("one less than k, after a call for more", v.agree(0, (1 << k) - 2), true);
                due("k", v.agree(0, (1 << k) - 1), true);
                int[] places = new int[k];
                int[] values = new int[k];
                for (int i = 0; i < k; i++) {
                    places[i] = 3 * i + 1;
                    values[i] = v.share(0, places[i], 0);
                }
                int fitting = through(places, values, next);
                v.setShare(0, next, fitting);
                due("k + 1 that fit", v.agree(0, (1 << k + 1) - 1), true);
                v.setShare(0, next, (fitting + 1) % P);
                due("k + 1, one more than fits", v.agree(0, (1 << k + 1) - 1), false);
                v.setShare(0, next, (fitting + 1018) % P);
                due("k + 1, one less than fits", v.agree(0, (1 << k + 1) - 1), false);
            }
            SecretVault v = vault(8);
            for (int x = 1; x <= 22; x += 3) {
                v.setShare(0, x, 1018 - x);
            }
            due("eight of eight", v.agree(0, 255), true);
            expelAll(v, 0);
            due("no shares at all", v.agree(0, 255), true);
        });
        edge(15, "Returns whether all shares of a set of members, whatever their states are, have values of one polynomial of "
            + "a degree less than k", () -> {
            for (int place = 1; place <= 24; place++) {
                SecretVault v = full(3);
                due("all 24", v.agree(0, 255), true);
                spoil(v, 0, place);
                due("place " + place + " is wrong", v.agree(0, 255), false);
                due("without its member", v.agree(0, 255 - (1 << (place - 1) / 3)), true);
            }
            SecretVault v = full(2);
            for (int x = 1; x <= 24; x++) {
                v.setShare(0, x, (1018 - x + 3) % P);
            }
            due("all are wrong, but agree", v.secret(0, 5) * 10 + (v.agree(0, 255) ? 1 : 0), 241);
            for (int x = 1; x <= 24; x++) {
                v.setShare(0, x, x * x);
            }
            due("a degree of k is too great", v.agree(0, 255), false);
            onlyPresent(v, 0);
            due("of absent members as well", v.agree(0, 255), false);
            SecretVault w = vault(3);
            makeStale(w, 0, 7);
            due("a stale one does not agree", w.agree(0, 255), false);
            due("the others do", w.agree(0, 127), true);
            SecretVault one = vault(1);
            due("equal values with the threshold 1", one.agree(0, 255), true);
            one.setShare(0, 22, 124);
            due("another value", one.agree(0, 255), false);
        });
        edge(15, "Throws `IllegalArgumentException` if a bit is set for no member", () -> {
            SecretVault v = vault(1);
            for (int set : new int[] {256, 257, -1, 65537, MIN, MAX}) {
                refused("set " + set, ARGUMENT, () -> v.agree(0, set));
            }
            due("all bits", v.agree(0, 255), true);
            refused(BOUNDS, () -> v.agree(4, 255));
            refused(BOUNDS, () -> v.agree(-1, 255));
            refused(NONE, () -> v.agree(3, 0));
        });
    }
}
