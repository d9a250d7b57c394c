/** The edges of promises 33 to 37: reports, events, snapshots. */
final class ReportEdges extends Edges {
    static void run() {
        levels();
        reportedShares();
        report();
        event();
        eventCodes();
        save();
        restore();
    }

    private static void levels() {
        edge(33, "At first there are no levels.", () -> {
            SecretVault v = new SecretVault();
            due("none", v.levels(), 0);
            v.put(0, 5, 8);
            v.open(0, 255);
            refused(NONE, () -> v.open(1, 255));
            refused(BOUNDS, () -> v.open(4, 255));
            refused(ARGUMENT, () -> v.open(0, 256));
            refused(STATE, () -> v.combine(0, 1));
            due("only a failure of opening leaves some", v.levels(), 0);
        });
        edge(33, "If there are too few shares: level 0 has code 1 and the slot, level 1 has code 3 and the number of shares that "
            + "are lacking", () -> {
            for (int k = 1; k <= 8; k++) {
                for (int shares = 0; shares < k; shares++) {
                    SecretVault v = new SecretVault();
                    int slot = k % 4;
                    int set = (1 << shares) - 1;
                    v.put(slot, 5, k);
                    refused(UNSUPPORTED, () -> v.open(slot, set));
                    due(shares + " of " + k, reportOf(v), "1:" + slot + " 3:" + (k - shares));
                }
            }
        });
        edge(33, "If the policy is not fulfilled: level 0 has code 1 and the slot, level 1 has code 2 and the set of the members "
            + "taken.", () -> {
            for (int slot = 0; slot < 4; slot++) {
                int s = slot;
                SecretVault v = new SecretVault();
                v.put(slot, 5, 1);
                v.setShare(slot, 1, 6);
                give(v, slot, "2of(7)");
                refused(UNSUPPORTED, () -> v.open(s, 255));
                due("the full set", reportOf(v), "1:" + slot + " 2:255");
                refused(UNSUPPORTED, () -> v.open(s, 0));
                due("the empty set", reportOf(v), "1:" + slot + " 2:0");
                v.setPresent(0, false);
                v.setPresent(7, false);
                refused(UNSUPPORTED, () -> v.open(s, 255 - 2));
                due("without absent ones", reportOf(v), "1:" + slot + " 2:" + (127 - 1 - 2));
                due("levels", v.levels(), 2);
            }
        });
        edge(33, "for each stale or wrong share of the members taken, in ascending order of the places, there is one more level "
            + "with code 4 if it is stale, 5 if it is wrong, and its place.", () -> {
            SecretVault v = full(1);
            for (int place = 1; place <= 24; place++) {
                spoil(v, 0, place);
            }
            refused(UNSUPPORTED, () -> v.open(0, 255));
            StringBuilder want = new StringBuilder("1:0 3:1");
            for (int place = 1; place <= 24; place++) {
                want.append(" 5:").append(place);
            }
            due("all are wrong", reportOf(v), want.toString());
            due("the most levels", v.levels(), 26);
            onlyPresent(v, 0);
            v.refresh(0);
            onlyPresent(v, 255);
            refused(UNSUPPORTED, () -> v.open(0, 255));
            due("all are stale", reportOf(v), want.toString().replace(" 5:", " 4:"));
        });
        edge(33, "for each stale or wrong share of the members taken", () -> {
            SecretVault v = full(8);
            makeStale(v, 0, 0);
            makeStale(v, 0, 7);
            spoil(v, 0, 4);
            spoil(v, 0, 12);
            take(v, 0, 11, 5, 9);
            refused(UNSUPPORTED, () -> v.open(0, 1 + 2 + 8 + 128));
            due("in order", reportOf(v), "1:0 3:5 4:1 4:2 4:3 5:4 4:11 5:12 4:22 4:23 4:24");
            refused(UNSUPPORTED, () -> v.open(0, 4 + 16));
            due("none of them", reportOf(v), "1:0 3:2");
        });
    }

    private static void reportedShares() {
        edge(34, "The shares in a report are those of this secret at all places of the members taken.", () -> {
            SecretVault v = full(1);
            v.put(1, 5, 8);
            for (int place = 1; place <= 24; place++) {
                spoil(v, 0, place);
            }
            refused(UNSUPPORTED, () -> v.open(1, 3));
            due("not those of another secret", reportOf(v), "1:1 3:2");
            weigh(v, 0, 1, 2);
            refused(UNSUPPORTED, () -> v.open(0, 7));
            due("at places that are not used", reportOf(v), "1:0 3:1 5:1 5:2 5:3 5:4 5:5 5:6 5:7 5:8 5:9");
            v.setPresent(1, false);
            refused(UNSUPPORTED, () -> v.open(0, 7));
            due("not those of an absent member", reportOf(v), "1:0 3:1 5:1 5:2 5:3 5:7 5:8 5:9");
            v.expel(0, 0);
            refused(UNSUPPORTED, () -> v.open(0, 7));
            due("not those that are gone", reportOf(v), "1:0 3:1 5:7 5:8 5:9");
        });
        edge(34, "A failure of opening or enrolling leaves a report, which replaces the earlier one.", () -> {
            SecretVault v = full(8);
            v.put(3, 5, 8);
            spoil(v, 0, 1);
            spoil(v, 0, 2);
            refused(UNSUPPORTED, () -> v.open(0, 1));
            due("four levels", reportOf(v), "1:0 3:7 5:1 5:2");
            refused(UNSUPPORTED, () -> v.enroll(3, 1, 7));
            due("two levels", reportOf(v), "1:3 3:5");
            refused("a level of the earlier one", NONE, () -> v.report(2, 0));
            refused(UNSUPPORTED, () -> v.reshare(0, 1, 1));
            due("four levels", reportOf(v), "1:0 3:7 5:1 5:2");
            give(v, 0, "7");
            refused(UNSUPPORTED, () -> v.open(0, 1));
            due("two levels", reportOf(v), "1:0 2:1");
        });
        edge(34, "and a success leaves the earlier one.", () -> {
            SecretVault v = full(2);
            refused(UNSUPPORTED, () -> v.open(0, 0));
            v.open(0, 255);
            v.enroll(0, 255, 3);
            v.reshare(0, 255, 3);
            v.combine(0, 255);
            v.groups(0);
            v.smallest(0, 0);
            v.refresh(0);
            v.put(0, 5, 1);
            v.remove(0);
            due("report", reportOf(v), "1:0 3:2");
        });
    }

    private static void report() {
        edge(34, "Throws `java` .util.NoSuchElementException if there is no such level", () -> {
            SecretVault v = full(1);
            refused("no report", NONE, () -> v.report(0, 0));
            for (int place = 1; place <= 24; place++) {
                spoil(v, 0, place);
            }
            refused(UNSUPPORTED, () -> v.open(0, 255));
            due("the first code", v.report(0, 0), 1);
            due("the first detail", v.report(0, 1), 0);
            due("the last code", v.report(25, 0), 5);
            due("the last detail", v.report(25, 1), 24);
            for (int level : new int[] {-1, 26, 27, MIN, MAX}) {
                refused("level " + level, NONE, () -> v.report(level, 0));
                refused("level " + level, NONE, () -> v.report(level, 2));
            }
            refused(UNSUPPORTED, () -> v.open(0, 0));
            due("the last level", v.report(1, 1), 1);
            refused("one more", NONE, () -> v.report(2, 1));
        });
        edge(34, "Throws `IllegalArgumentException` if what is not 0 or 1", () -> {
            SecretVault v = vault(1);
            refused(UNSUPPORTED, () -> v.open(0, 0));
            for (int what : new int[] {-1, 2, 3, MIN, MAX}) {
                refused("what " + what, ARGUMENT, () -> v.report(0, what));
                refused("what " + what, ARGUMENT, () -> v.report(1, what));
            }
        });
    }

    private static void event() {
        edge(35, "Returns one of the latest 20 events.", () -> {
            SecretVault v = new SecretVault();
            refused("none", NONE, () -> v.event(0));
            for (int n = 1; n <= 45; n++) {
                v.put(n % 4, 5, 1);
                int kept = Math.min(n, 20);
                due("the latest", v.event(0), 100 + n % 4);
                due("the oldest", v.event(kept - 1), 100 + (n - kept + 1) % 4);
                refused("one more", NONE, () -> v.event(kept));
            }
            for (int i = 0; i < 20; i++) {
                due("index " + i, v.event(i), 100 + (45 - i) % 4);
            }
        });
        edge(35, "Throws `java` .util.NoSuchElementException if there is no such event", () -> {
            SecretVault v = vault(1);
            due("the first", v.event(0), 100);
            for (int index : new int[] {-1, 1, 19, 20, 21, -20, MIN, MAX}) {
                refused("index " + index, NONE, () -> v.event(index));
            }
            for (int i = 0; i < 30; i++) {
                v.put(0, 5, 1);
            }
            for (int index : new int[] {-1, 20, 21, -20, 39, 40, MIN, MAX}) {
                refused("index " + index, NONE, () -> v.event(index));
            }
        });
    }

    private static void eventCodes() {
        edge(35, "put (code 100 + slot), remove (200 + slot), refresh (300 + slot), reshare (400 + slot), enroll (500 + 10 * slot "
            + "+ member), expel (600 + 10 * slot + member) and open (700 + slot).", () -> {
            for (int slot = 0; slot < 4; slot += 3) {
                for (int m = 0; m < 8; m += 7) {
                    SecretVault v = new SecretVault();
                    v.put(slot, 5, 1);
                    due("put", v.event(0), 100 + slot);
                    v.refresh(slot);
                    due("refresh", v.event(0), 300 + slot);
                    v.reshare(slot, 255, 2);
                    due("reshare", v.event(0), 400 + slot);
                    v.enroll(slot, 255, m);
                    due("enroll", v.event(0), 500 + 10 * slot + m);
                    v.expel(slot, m);
                    due("expel", v.event(0), 600 + 10 * slot + m);
                    v.open(slot, 255);
                    due("open", v.event(0), 700 + slot);
                    v.remove(slot);
                    due("remove", v.event(0), 200 + slot);
                    due("one each", eventsOf(v), 7);
                }
            }
        });
        edge(35, "Opening as a part of reshare or enroll leaves a report if it fails, but is no event of open", () -> {
            SecretVault v = vault(2);
            v.reshare(0, 255, 2);
            v.enroll(0, 255, 0);
            refused(UNSUPPORTED, () -> v.reshare(0, 1, 2));
            due("a report", reportOf(v), "1:0 3:1");
            refused(UNSUPPORTED, () -> v.enroll(0, 0, 2));
            due("a report", reportOf(v), "1:0 3:2");
            due("events", eventsOf(v), 3);
            due("enroll", v.event(0), 500);
            due("reshare", v.event(1), 400);
        });
        edge(35, "The events are the calls without an exception of", () -> {
            SecretVault v = vault(2);
            refused(STATE, () -> {
                onlyPresent(v, 1);
                v.put(0, 5, 2);
            });
            refused(STATE, () -> {
                onlyPresent(v, 3);
                v.reshare(0, 255, 3);
            });
            refused(UNSUPPORTED, () -> v.open(0, 1));
            refused(UNSUPPORTED, () -> v.enroll(0, 1, 1));
            refused(NONE, () -> v.remove(1));
            refused(NONE, () -> v.refresh(1));
            refused(NONE, () -> v.expel(1, 1));
            refused(BOUNDS, () -> v.expel(0, 8));
            refused(ARGUMENT, () -> v.put(0, 5, 9));
            v.combine(0, 3);
            v.agree(0, 3);
            give(v, 0, "0");
            take(v, 0, 1, 5, 1);
            v.setShare(0, 1, 6);
            v.setWeight(0, 3);
            v.setPresent(0, false);
            v.draw();
            v.seed(5);
            v.groups(0);
            v.save();
            v.restore();
            due("one event", eventsOf(v), 1);
            due("the first put", v.event(0), 100);
        });
    }

    private static void save() {
        edge(36, "Returns the number of secrets.", () -> {
            SecretVault v = new SecretVault();
            due("none", v.save(), 0);
            for (int slot = 3; slot >= 0; slot--) {
                v.put(slot, 5, 1);
                due("secrets", v.save(), 4 - slot);
            }
            v.put(0, 6, 1);
            due("in place of another", v.save(), 4);
            v.remove(3);
            due("one less", v.save(), 3);
        });
        edge(36, "replacing what was saved before.", () -> {
            SecretVault v = full(8);
            give(v, 0, "0");
            v.put(1, 5, 1);
            v.save();
            v.remove(1);
            v.put(0, 7, 1);
            v.save();
            v.put(0, 8, 2);
            due("one secret", v.restore(), 1);
            due("the later value", v.open(0, 1), 7);
            due("no policy", v.secret(0, 6), 0);
            refused("the earlier one is gone", NONE, () -> v.secret(1, 0));
        });
        edge(36, "Saves everything but the buffer, the error position and the report", () -> {
            SecretVault v = vault(2);
            type(v, "0&");
            refused(ARGUMENT, () -> v.setPolicy(0));
            refused(UNSUPPORTED, () -> v.open(0, 0));
            type(v, "0|1");
            v.save();
            v.setPolicy(0);
            type(v, "7x");
            refused(ARGUMENT, () -> v.setPolicy(0));
            refused(UNSUPPORTED, () -> v.open(0, 4));
            type(v, "1&2|3");
            v.restore();
            due("the error position stays", v.errorPosition(), 1);
            due("the report stays", reportOf(v), "1:0 2:4");
            due("the buffer stays", v.append(0), 5);
            due("the policy does not", v.setPolicy(0), false);
            due("text of the buffer", policyOf(v, 0), "1&2|3");
        });
        edge(36, "Saving includes z, the members, their weights and the events.", () -> {
            SecretVault v = vault(2);
            v.seed(MIN);
            weigh(v, 0, 1, 2, 3, 3, 2, 1, 0);
            onlyPresent(v, 129);
            for (int i = 0; i < 25; i++) {
                v.expel(0, i % 8);
            }
            v.save();
            v.seed(7);
            weigh(v, 1, 1, 1, 1, 1, 1, 1, 1);
            onlyPresent(v, 255);
            for (int i = 0; i < 7; i++) {
                v.put(3, 5, 1);
            }
            v.restore();
            due("z", zOf(v), MIN);
            int[] weights = {0, 1, 2, 3, 3, 2, 1, 0};
            for (int m = 0; m < 8; m++) {
                due("weight", v.member(m, 0), weights[m]);
                due("present", v.member(m, 1), m % 7 == 0 ? 1 : 0);
            }
            due("twenty events", eventsOf(v), 20);
            for (int i = 0; i < 20; i++) {
                due("event " + i, v.event(i), 600 + (24 - i) % 8);
            }
            v.refresh(0);
            due("the next event", v.event(0) * 1000 + v.event(1), 300600);
            due("the oldest is the next one", v.event(19), 600 + 6);
        });
    }

    private static void restore() {
        edge(37, "Throws `IllegalStateException` if nothing was saved", () -> {
            SecretVault v = full(2);
            refused(STATE, () -> v.restore());
            due("it stays", v.secret(0, 3), 24);
            refused("again", STATE, () -> v.restore());
            v.save();
            due("then it is", v.restore(), 1);
        });
        edge(37, "Returns the number of secrets.", () -> {
            for (int secrets = 0; secrets <= 4; secrets++) {
                SecretVault v = new SecretVault();
                for (int slot = 0; slot < secrets; slot++) {
                    v.put(slot, slot, 1);
                }
                v.save();
                for (int slot = 0; slot < 4; slot++) {
                    v.put(slot, 9, 1);
                }
                due("secrets", v.restore(), secrets);
                for (int slot = 0; slot < 4; slot++) {
                    int s = slot;
                    due("slot " + slot, thrownBy(() -> v.open(s, 1)), slot < secrets ? "none" : NONE.getName());
                }
            }
        });
        edge(37, "Restores what was saved; it stays saved.", () -> {
            SecretVault v = full(8);
            give(v, 0, "0|1");
            makeStale(v, 0, 7);
            spoil(v, 0, 24);
            spoil(v, 0, 1);
            int[] commitments = new int[8];
            int[] values = new int[25];
            for (int x = 1; x <= 24; x++) {
                values[x] = v.share(0, x, 0);
            }
            for (int j = 0; j < 8; j++) {
                commitments[j] = v.commitment(0, j);
            }
            v.save();
            for (int round = 0; round < 2; round++) {
                v.refresh(0);
                v.setShare(0, 12, 0);
                v.expel(0, 3);
                v.reshare(0, 255, 1);
                give(v, 0, "7");
                due("secrets", v.restore(), 1);
                due("threshold and epoch", v.secret(0, 0) * 10 + v.secret(0, 1), 82);
                due("policy", policyOf(v, 0), "0|1");
                due("states", statesOf(v, 0), "wggggggggggggggggggggsss");
                for (int x = 1; x <= 24; x++) {
                    due("value", v.share(0, x, 0), values[x]);
                    due("epoch", v.share(0, x, 1), x < 22 ? 2 : 1);
                }
                for (int j = 0; j < 8; j++) {
                    due("commitment", v.commitment(0, j), commitments[j]);
                }
                due("events", eventsOf(v), 2);
            }
        });
    }
}
