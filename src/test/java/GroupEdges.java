/** The edges of promises 29 to 32: groups, smallest sets, power, health. */
final class GroupEdges extends Edges {
    static void run() {
        groups();
        smallest();
        powerBits();
        healthBits();
    }

    /** For each set whether opening does not fail, asked of open. */
    private static boolean[] opens(SecretVault v, int slot) {
        boolean[] opens = new boolean[256];
        for (int set = 0; set < 256; set++) {
            int s = set;
            opens[set] = thrownBy(() -> v.open(slot, s)).equals("none");
        }
        return opens;
    }

    /** Vaults with all kinds of members, policies and shares in slot 2. */
    private static SecretVault mixed(int number) {
        SecretVault v = new SecretVault();
        v.seed(number);
        String[] policies = {"", "0", "0&(1|2)|7", "2of(0,1,2,3&4)", "3of(0,1)", "1of(0,1,2,3,4,5,6,7)", "0&1&2&3"};
        for (int m = 0; m < 8; m++) {
            v.setWeight(m, (number + 5 * m) % 7 % 4);
        }
        v.setWeight(number % 8, 3);
        v.setWeight((number + 3) % 8, 3);
        v.put(2, 1018, number % 6 + 1);
        give(v, 2, policies[number % policies.length]);
        if (number % 3 == 0) {
            makeStale(v, 2, number % 5);
        }
        for (int place = 1 + number % 4; place <= 24; place += 7) {
            int x = place;
            if (thrownBy(() -> v.share(2, x, 0)).equals("none")) {
                spoil(v, 2, place);
            }
        }
        onlyPresent(v, number % 2 == 0 ? 255 : 255 - (1 << number % 8) - (1 << (number + 1) % 8));
        return v;
    }

    private static int count(boolean[] opens) {
        int n = 0;
        for (boolean open : opens) {
            n += open ? 1 : 0;
        }
        return n;
    }

    private static void groups() {
        edge(29, "Returns the number of sets of members for which opening the secret would not fail.", () -> {
            for (int number = 0; number < 84; number++) {
                SecretVault v = mixed(number);
                due("number " + number, v.groups(2), count(opens(mixed(number), 2)));
            }
        });
        edge(29, "Returns the number, 0 to 256.", () -> {
            SecretVault v = vault(1);
            due("all but the empty set", v.groups(0), 255);
            give(v, 0, "2of(0)");
            due("none: the policy", v.groups(0), 0);
            give(v, 0, "");
            onlyPresent(v, 0);
            due("none: all are absent", v.groups(0), 0);
            onlyPresent(v, 255);
            for (int x = 1; x <= 22; x += 3) {
                spoil(v, 0, x);
            }
            due("none: all are wrong", v.groups(0), 0);
            expelAll(v, 0);
            due("none: no shares", v.groups(0), 0);
            due("one: all are needed", vault(8).groups(0), 1);
            for (int k = 1; k <= 8; k++) {
                int want = 0;
                for (int set = 0; set < 256; set++) {
                    want += Integer.bitCount(set) >= k ? 1 : 0;
                }
                due("threshold " + k, vault(k).groups(0), want);
            }
        });
        edge(29, "Among all 256 sets, absent members are in or out alike.", () -> {
            SecretVault v = vault(1);
            onlyPresent(v, 128);
            due("one is present", v.groups(0), 128);
            onlyPresent(v, 129);
            due("two are present", v.groups(0), 192);
            SecretVault w = vault(8);
            w.setPresent(0, false);
            due("not enough are present", w.groups(0), 0);
        });
        edge(29, "combine, groups and smallest leave no report", () -> {
            SecretVault v = vault(8);
            v.groups(0);
            v.smallest(0, 0);
            refused(STATE, () -> v.combine(0, 127));
            v.powerBits(0, 0);
            due("levels", v.levels(), 0);
            refused(UNSUPPORTED, () -> v.open(0, 127));
            v.groups(0);
            v.smallest(0, 0);
            refused(STATE, () -> v.combine(0, 1));
            due("the earlier one stays", reportOf(v), "1:0 3:1");
        });
        edge(29, "Throws `IndexOutOfBoundsException` if there is no such slot", () -> {
            SecretVault v = vault(1);
            v.put(3, 5, 8);
            due("last", v.groups(3), 1);
            due("first", v.groups(0), 255);
            for (int slot : new int[] {-1, 4, MIN, MAX}) {
                refused("slot " + slot, BOUNDS, () -> v.groups(slot));
            }
            refused("empty", NONE, () -> v.groups(1));
        });
    }

    private static void smallest() {
        edge(30, "Returns one of the sets of members for which opening would not fail, while it would fail without any one of "
            + "them.", () -> {
            for (int number = 0; number < 84; number++) {
                SecretVault v = mixed(number);
                boolean[] opens = opens(mixed(number), 2);
                int index = 0;
                for (int set = 0; set < 256; set++) {
                    boolean least = opens[set];
                    for (int m = 0; m < 8; m++) {
                        least = least && ((set >> m) % 2 == 0 || !opens[set - (1 << m)]);
                    }
                    if (least) {
                        due("number " + number + ", index " + index, v.smallest(2, index), set);
                        index++;
                    }
                }
                int end = index;
                refused("no more", NONE, () -> v.smallest(2, end));
            }
        });
        edge(30, "`index`: the index, in ascending order of the sets as ints, from 0", () -> {
            SecretVault v = vault(1);
            for (int m = 0; m < 8; m++) {
                due("index " + m, v.smallest(0, m), 1 << m);
            }
            refused("one more", NONE, () -> v.smallest(0, 8));
            SecretVault w = vault(4);
            due("first of 70", w.smallest(0, 0), 15);
            due("last of 70", w.smallest(0, 69), 240);
            refused("one more", NONE, () -> w.smallest(0, 70));
            SecretVault all = vault(8);
            due("the only one", all.smallest(0, 0), 255);
            refused("one more", NONE, () -> all.smallest(0, 1));
        });
        edge(30, "Throws `java` .util.NoSuchElementException if the slot is empty or there is no such index", () -> {
            SecretVault v = vault(1);
            for (int index : new int[] {-1, MIN, MAX, 8, 255, 256}) {
                refused("index " + index, NONE, () -> v.smallest(0, index));
            }
            refused("empty", NONE, () -> v.smallest(1, 0));
            expelAll(v, 0);
            refused("no set opens", NONE, () -> v.smallest(0, 0));
            for (int slot : new int[] {-1, 4, MIN, MAX}) {
                refused("slot " + slot, BOUNDS, () -> v.smallest(slot, 0));
            }
            v.put(3, 5, 1);
            due("the last slot", v.smallest(3, 7), 128);
        });
        edge(30, "absent members are in or out alike.", () -> {
            SecretVault v = vault(2);
            onlyPresent(v, 1 + 4 + 128);
            due("none with an absent one", v.smallest(0, 0), 5);
            due("none with an absent one", v.smallest(0, 1), 129);
            due("none with an absent one", v.smallest(0, 2), 132);
            refused("no more", NONE, () -> v.smallest(0, 3));
        });
    }

    private static void powerBits() {
        edge(31, "the number of sets that contain it for which opening would not fail, but would fail without it, divided by "
            + "128, both converted to double.", () -> {
            for (int number = 0; number < 84; number++) {
                SecretVault v = mixed(number);
                boolean[] opens = opens(mixed(number), 2);
                for (int m = 0; m < 8; m++) {
                    int n = 0;
                    for (int set = 0; set < 256; set++) {
                        n += (set >> m) % 2 == 1 && opens[set] && !opens[set - (1 << m)] ? 1 : 0;
                    }
                    due("number " + number + ", member " + m, v.powerBits(2, m), Double.doubleToLongBits((double) n / (double) 128));
                }
            }
        });
        edge(31, "Returns the bits of the double, as by Double.doubleToLongBits.", () -> {
            SecretVault v = vault(1);
            due("1 of 128", v.powerBits(0, 7), Double.doubleToLongBits(1.0 / 128.0));
            give(v, 0, "7");
            due("128 of 128", v.powerBits(0, 7), Double.doubleToLongBits(1.0));
            due("0 of 128", v.powerBits(0, 0), 0L);
            give(v, 0, "7&6");
            due("64 of 128", v.powerBits(0, 7), Double.doubleToLongBits(0.5));
            give(v, 0, "2of(0)");
            due("no set opens", v.powerBits(0, 0), 0L);
            give(v, 0, "7|0&1&2&3&4&5&6");
            due("127 of 128", v.powerBits(0, 7), Double.doubleToLongBits(127.0 / 128.0));
            due("3 of 128", vaultWith("0&1&(2|3&4&5|3&6&7&5)").powerBits(0, 6),
                Double.doubleToLongBits((double) countOf("0&1&(2|3&4&5|3&6&7&5)", 6) / 128.0));
        });
        edge(31, "Throws `IndexOutOfBoundsException` if there is no such slot or member", () -> {
            SecretVault v = vault(8);
            v.put(3, 5, 8);
            due("the last ones", v.powerBits(3, 7), Double.doubleToLongBits(1.0 / 128.0));
            due("the first ones", v.powerBits(0, 0), Double.doubleToLongBits(1.0 / 128.0));
            for (int bad : new int[] {-1, 8, MIN, MAX}) {
                refused("member " + bad, BOUNDS, () -> v.powerBits(0, bad));
                refused("member " + bad + " of an empty slot", BOUNDS, () -> v.powerBits(1, bad));
                refused("slot " + bad, BOUNDS, () -> v.powerBits(bad, 0));
            }
            refused("slot 4", BOUNDS, () -> v.powerBits(4, 0));
            refused("empty", NONE, () -> v.powerBits(1, 0));
        });
        edge(31, "absent members are in or out alike.", () -> {
            SecretVault v = vault(1);
            v.setPresent(0, false);
            due("an absent member has no power", v.powerBits(0, 0), 0L);
            due("another: in both halves", v.powerBits(0, 1), Double.doubleToLongBits(2.0 / 128.0));
        });
    }

    private static SecretVault vaultWith(String policy) {
        SecretVault v = vault(1);
        give(v, 0, policy);
        return v;
    }

    private static int countOf(String policy, int member) {
        SecretVault v = vaultWith(policy);
        int n = 0;
        for (int set = 0; set < 256; set++) {
            if ((set >> member) % 2 == 1 && v.fulfils(0, set) && !v.fulfils(0, set - (1 << member))) {
                n++;
            }
        }
        return n;
    }

    /** A secret with so many shares at the lowest places, of which so many are wrong. */
    private static SecretVault spoiled(int all, int wrongOnes) {
        SecretVault v = new SecretVault();
        for (int m = 0; m < 8; m++) {
            v.setWeight(m, Math.min(3, Math.max(0, all - 3 * m)));
        }
        v.put(0, 5, 1);
        for (int place = 1; place <= wrongOnes; place++) {
            v.setShare(0, place, 6);
        }
        return v;
    }

    private static void healthBits() {
        edge(32, "the number of its good shares divided by the number of its shares, both converted to float.", () -> {
            for (int all = 1; all <= 24; all++) {
                for (int good = 0; good <= all; good++) {
                    SecretVault v = spoiled(all, all - good);
                    due(good + " of " + all, v.healthBits(0), Float.floatToIntBits((float) good / (float) all));
                }
            }
        });
        edge(32, "Returns the bits of the float, as by Float.floatToIntBits.", () -> {
            due("all are good", spoiled(24, 0).healthBits(0), 0x3F800000);
            due("none is good", spoiled(24, 24).healthBits(0), 0);
            due("1 of 2", spoiled(2, 1).healthBits(0), 0x3F000000);
            due("1 of 3, rounded", spoiled(3, 2).healthBits(0), 0x3EAAAAAB);
            due("2 of 3, rounded", spoiled(3, 1).healthBits(0), 0x3F2AAAAB);
            SecretVault v = vault(1);
            makeStale(v, 0, 0);
            due("a stale one is not good", v.healthBits(0), Float.floatToIntBits(7f / 8f));
        });
        edge(32, "Throws `ArithmeticException` if there are no shares", () -> {
            SecretVault v = vault(1);
            for (int m = 0; m < 7; m++) {
                v.expel(0, m);
            }
            due("one share", v.healthBits(0), Float.floatToIntBits(1f));
            v.expel(0, 7);
            refused("none", ARITHMETIC, () -> v.healthBits(0));
            take(v, 0, 24, 5, 1);
            due("one again, but wrong", v.healthBits(0), 0);
        });
        edge(32, "Throws `java` .util.NoSuchElementException if the slot is empty", () -> {
            SecretVault v = vault(1);
            v.put(3, 5, 1);
            due("the last slot", v.healthBits(3), Float.floatToIntBits(1f));
            refused("empty", NONE, () -> v.healthBits(1));
            for (int slot : new int[] {-1, 4, MIN, MAX}) {
                refused("slot " + slot, BOUNDS, () -> v.healthBits(slot));
            }
            v.remove(0);
            refused("empty", NONE, () -> v.healthBits(0));
        });
    }
}
