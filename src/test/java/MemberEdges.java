/** The edges of promises 1 to 6: a new object, random numbers, members. */
final class MemberEdges extends Edges {
    static void run() {
        newObject();
        seed();
        draw();
        setWeight();
        setPresent();
        member();
    }

    private static void newObject() {
        edge(1, "Creates a vault with empty slots.", () -> {
            SecretVault v = new SecretVault();
            for (int slot = 0; slot < 4; slot++) {
                int s = slot;
                refused(NONE, () -> v.secret(s, 0));
                refused(NONE, () -> v.share(s, 1, 0));
                refused(NONE, () -> v.commitment(s, 0));
                refused(NONE, () -> v.policyText(s, -1));
                refused(NONE, () -> v.fulfils(s, 0));
            }
            due("secrets", v.save(), 0);
        });
        edge(1, "Creates a vault with empty slots.", () -> {
            SecretVault used = full(8);
            used.setPresent(7, false);
            used.save();
            type(used, "0&");
            refused(ARGUMENT, () -> used.setPolicy(0));
            refused(UNSUPPORTED, () -> used.open(0, 0));
            type(used, "0");
            SecretVault v = new SecretVault();
            due("what another object did: levels", v.levels(), 0);
            due("error position", v.errorPosition(), -1);
            due("buffer", v.append(0), 0);
            due("z", v.seed(1), 1);
            due("weight", v.member(7, 0), 1);
            due("present", v.member(7, 1), 1);
            refused(NONE, () -> v.secret(0, 0));
            refused(NONE, () -> v.event(0));
            refused(STATE, () -> v.restore());
        });
        edge(1, "There are 4 slots, numbered from 0; each of them is empty or contains a secret.", () -> {
            SecretVault v = new SecretVault();
            refused(BOUNDS, () -> v.put(-1, 5, 1));
            refused(BOUNDS, () -> v.put(4, 5, 1));
            for (int slot = 0; slot < 4; slot++) {
                due("shares", v.put(slot, slot, 1), 8);
            }
            for (int slot = 0; slot < 4; slot++) {
                due("each slot its own", v.open(slot, 1), slot);
            }
        });
        edge(1, "There are 8 members, numbered from 0.", () -> {
            SecretVault v = new SecretVault();
            due("first", v.member(0, 0), 1);
            due("last", v.member(7, 0), 1);
            refused(BOUNDS, () -> v.member(-1, 0));
            refused(BOUNDS, () -> v.member(8, 0));
        });
        edge(1, "all are present at first", () -> {
            SecretVault v = new SecretVault();
            for (int m = 0; m < 8; m++) {
                due("member " + m, v.member(m, 1), 1);
            }
        });
        edge(1, "A member has a weight from 0 to 3, 1 at first, which is the number of shares that it gets.", () -> {
            SecretVault v = new SecretVault();
            for (int m = 0; m < 8; m++) {
                due("member " + m, v.member(m, 0), 1);
            }
            v.put(0, 5, 1);
            due("one share each", placesOf(v, 0), "1 4 7 10 13 16 19 22");
            for (int m = 0; m < 8; m++) {
                for (int weight = 0; weight <= 3; weight++) {
                    SecretVault w = new SecretVault();
                    weigh(w, 0, 0, 0, 0, 0, 0, 0, 0);
                    w.setWeight(m, weight);
                    w.setWeight((m + 1) % 8, 1);
                    due("shares", w.put(0, 5, 1), weight + 1);
                    due("weight " + weight, w.member(m, 2), weight);
                }
            }
        });
        edge(1, "The shares have places: member m has the places 3 * m + 1, 3 * m + 2 and 3 * m + 3, of which the first ones, "
            + "as many as its weight says, are used.", () -> {
            SecretVault v = new SecretVault();
            weigh(v, 3, 2, 1, 0, 0, 1, 2, 3);
            v.put(0, 5, 1);
            due("places", placesOf(v, 0), "1 2 3 4 5 7 16 19 20 22 23 24");
        });
        edge(1, "At first there are no levels.", () -> {
            SecretVault v = new SecretVault();
            due("levels", v.levels(), 0);
            refused(NONE, () -> v.report(0, 0));
        });
        edge(1, "There is a number z, an int, which is 1 at first.", () -> {
            due("z", new SecretVault().seed(0), 1);
            due("the first number", new SecretVault().draw(), number(drawn(1, 1)));
        });
    }

    private static void seed() {
        edge(2, "Sets the number z.", () -> {
            for (int z : new int[] {MIN, -1, 0, 1, MAX}) {
                SecretVault v = new SecretVault();
                v.seed(z);
                due("z " + z, v.seed(5), z);
                v.seed(z);
                due("number from " + z, v.draw(), number(drawn(z, 1)));
            }
        });
        edge(2, "Returns the previous number.", () -> {
            SecretVault v = new SecretVault();
            due("at first", v.seed(MAX), 1);
            due("what was set", v.seed(MIN), MAX);
            due("what was set", v.seed(MIN), MIN);
            v.draw();
            due("what a draw made of it", v.seed(0), drawn(MIN, 1));
        });
    }

    private static void draw() {
        edge(3, "To draw means that z becomes z * 1103515245 + 12345, with overflow", () -> {
            for (int z : new int[] {0, 1, 2, -1, MIN, MAX, 0x40000000, -12345}) {
                SecretVault v = new SecretVault();
                v.seed(z);
                v.draw();
                due("after one draw from " + z, zOf(v), drawn(z, 1));
                v.draw();
                due("after two draws from " + z, zOf(v), drawn(z, 2));
            }
        });
        edge(3, "the drawn number is (z >>> 16) % p.", () -> {
            int[][] rows = {
                {0, 0}, {0xFFFF, 0}, {0x10000, 1}, {1018 << 16, 1018}, {(1018 << 16) + 0xFFFF, 1018}, {1019 << 16, 0},
                {1020 << 16, 1}, {MAX, 159}, {MIN, 160}, {-1, 319}, {-0x10000, 319}, {(64 * 1019) << 16, 0},
                {(64 * 1019 - 1) << 16, 1018},
            };
            for (int[] row : rows) {
                SecretVault v = new SecretVault();
                v.seed(before(row[0]));
                due("number with z " + row[0], v.draw(), row[1]);
                due("z", v.seed(1), row[0]);
            }
        });
    }

    /** The z from which a draw leads to this one: the factor is odd, so it has an inverse modulo 2 to the power of 32. */
    private static int before(int z) {
        int inverse = 1;
        for (int i = 0; i < 6; i++) {
            inverse = inverse * (2 - 1103515245 * inverse);
        }
        return (z - 12345) * inverse;
    }

    private static void setWeight() {
        edge(4, "`weight`: the weight, 0 to 3", () -> {
            for (int m = 0; m < 8; m += 7) {
                SecretVault v = new SecretVault();
                int x = m;
                v.setWeight(m, 0);
                due("smallest", v.member(m, 0), 0);
                v.setWeight(m, 3);
                due("greatest", v.member(m, 0), 3);
                refused(ARGUMENT, () -> v.setWeight(x, -1));
                refused(ARGUMENT, () -> v.setWeight(x, 4));
                due("stays", v.member(m, 0), 3);
            }
        });
        edge(4, "Throws `IllegalArgumentException` if the weight is out of range", () -> {
            SecretVault v = new SecretVault();
            for (int weight : new int[] {-1, 4, 5, 255, 256, 259, MIN, MAX, MIN + 3}) {
                refused("weight " + weight, ARGUMENT, () -> v.setWeight(3, weight));
            }
            due("stays", v.member(3, 0), 1);
        });
        edge(4, "Throws `IndexOutOfBoundsException` if there is no such member", () -> {
            SecretVault v = new SecretVault();
            for (int m : new int[] {-1, 8, 9, 255, 256, 32, MIN, MAX}) {
                refused("member " + m, BOUNDS, () -> v.setWeight(m, 2));
            }
            due("first", v.setWeight(0, 2), 1);
            due("last", v.setWeight(7, 2), 1);
        });
        edge(4, "Shares stay as they are.", () -> {
            SecretVault v = full(3);
            weigh(v, 0, 0, 0, 0, 0, 0, 0, 0);
            due("no weight", statesOf(v, 0), "gggggggggggggggggggggggg");
            SecretVault w = vault(3);
            weigh(w, 3, 3, 3, 3, 3, 3, 3, 3);
            due("all weights", placesOf(w, 0), "1 4 7 10 13 16 19 22");
        });
        edge(4, "Returns the previous weight.", () -> {
            SecretVault v = new SecretVault();
            due("at first", v.setWeight(7, 0), 1);
            due("smallest", v.setWeight(7, 3), 0);
            due("greatest", v.setWeight(7, 3), 3);
            due("the same", v.setWeight(7, 2), 3);
            due("of another member", v.setWeight(6, 2), 1);
        });
    }

    private static void setPresent() {
        edge(5, "Returns whether it was present.", () -> {
            for (int m = 0; m < 8; m++) {
                SecretVault v = new SecretVault();
                due("at first", v.setPresent(m, true), true);
                due("still", v.setPresent(m, false), true);
                due("no more", v.setPresent(m, false), false);
                due("still not", v.setPresent(m, true), false);
                due("again", v.setPresent(m, true), true);
            }
        });
        edge(5, "Sets whether a member is present.", () -> {
            for (int m = 0; m < 8; m++) {
                SecretVault v = new SecretVault();
                v.setPresent(m, false);
                for (int other = 0; other < 8; other++) {
                    due("only this one is absent", v.member(other, 1), other == m ? 0 : 1);
                }
                onlyPresent(v, 0);
                v.setPresent(m, true);
                for (int other = 0; other < 8; other++) {
                    due("only this one is present", v.member(other, 1), other == m ? 1 : 0);
                }
            }
        });
        edge(5, "Throws `IndexOutOfBoundsException` if there is no such member", () -> {
            SecretVault v = new SecretVault();
            for (int m : new int[] {-1, 8, 31, 32, 39, -32, MIN, MAX}) {
                refused("member " + m, BOUNDS, () -> v.setPresent(m, false));
            }
            for (int m = 0; m < 8; m++) {
                due("all are present", v.member(m, 1), 1);
            }
        });
    }

    private static void member() {
        edge(6, "Throws `IllegalArgumentException` if what is not from 0 to 3", () -> {
            SecretVault v = vault(3);
            for (int what : new int[] {-1, 4, 5, MIN, MAX}) {
                refused("what " + what, ARGUMENT, () -> v.member(0, what));
            }
            int[] want = {1, 1, 1, 0};
            for (int what = 0; what < 4; what++) {
                due("what " + what, v.member(0, what), want[what]);
            }
        });
        edge(6, "Throws `IndexOutOfBoundsException` if there is no such member", () -> {
            SecretVault v = vault(3);
            for (int what = 0; what < 4; what++) {
                int w = what;
                for (int m : new int[] {-1, 8, MIN, MAX}) {
                    refused("member " + m, BOUNDS, () -> v.member(m, w));
                }
                due("the first and the last are alike", v.member(0, what), v.member(7, what));
            }
        });
        edge(6, "1 for 1 if it is present, otherwise 0", () -> {
            SecretVault v = new SecretVault();
            onlyPresent(v, 129);
            due("first", v.member(0, 1), 1);
            due("second", v.member(1, 1), 0);
            due("last", v.member(7, 1), 1);
        });
        edge(6, "2 for the number of its shares of all secrets", () -> {
            SecretVault v = new SecretVault();
            due("none", v.member(0, 2), 0);
            weigh(v, 3, 0, 3, 3, 3, 3, 3, 3);
            for (int slot = 0; slot < 4; slot++) {
                v.put(slot, 5, 1);
                due("of " + (slot + 1) + " secrets", v.member(0, 2), 3 * slot + 3);
            }
            due("the most", v.member(7, 2), 12);
            due("none of its neighbours'", v.member(1, 2), 0);
            v.expel(3, 0);
            due("three less", v.member(0, 2), 9);
            v.remove(0);
            due("of a slot that is empty", v.member(0, 2), 6);
            v.setPresent(0, false);
            v.setWeight(0, 0);
            due("of an absent member without a weight", v.member(0, 2), 6);
        });
        edge(6, "3 for the number of those among them that are not good", () -> {
            SecretVault v = new SecretVault();
            weigh(v, 3, 3, 3, 3, 3, 3, 3, 3);
            for (int slot = 0; slot < 4; slot++) {
                v.put(slot, 5, 2);
            }
            due("none", v.member(7, 3), 0);
            for (int slot = 0; slot < 4; slot++) {
                for (int place = 22; place <= 24; place++) {
                    spoil(v, slot, place);
                    due("wrong ones", v.member(7, 3), 3 * slot + place - 21);
                }
            }
            due("no neighbour's", v.member(6, 3), 0);
            makeStale(v, 0, 6);
            due("stale ones", v.member(6, 3), 3);
            due("all count", v.member(6, 2), 12);
            v.remove(0);
            due("of a slot that is empty", v.member(6, 3), 0);
        });
    }
}
