/** The edges of promises 18 to 22: shares and their texts. */
final class ShareEdges extends Edges {
    static void run() {
        share();
        setShare();
        shareText();
        importedNumbers();
        importedSigns();
        importShare();
        bad();
    }

    private static void share() {
        edge(18, "`place`: the place, 1 to 24", () -> {
            SecretVault v = full(3);
            int[] a = polynomial(1, 123, 3);
            due("first", v.share(0, 1, 0), at(a, 1));
            due("last", v.share(0, 24, 0), at(a, 24));
            for (int place : new int[] {0, -1, 25, MIN, MAX}) {
                refused("place " + place, BOUNDS, () -> v.share(0, place, 0));
                refused("place " + place + " of an empty slot", BOUNDS, () -> v.share(1, place, 0));
            }
        });
        edge(18, "Throws `IndexOutOfBoundsException` if there is no such slot or place", () -> {
            SecretVault v = vault(3);
            v.put(3, 7, 1);
            due("the last slot", v.share(3, 22, 0), 7);
            for (int slot : new int[] {-1, 4, MIN, MAX}) {
                refused("slot " + slot, BOUNDS, () -> v.share(slot, 1, 0));
            }
        });
        edge(18, "Throws `IllegalArgumentException` if what is not from 0 to 2", () -> {
            SecretVault v = vault(1);
            due("value", v.share(0, 1, 0), 123);
            due("epoch", v.share(0, 1, 1), 1);
            due("state", v.share(0, 1, 2), 0);
            for (int what : new int[] {-1, 3, 4, MIN, MAX}) {
                refused("what " + what, ARGUMENT, () -> v.share(0, 1, what));
            }
        });
        edge(18, "Throws `java` .util.NoSuchElementException if the slot is empty or has no share at this place", () -> {
            SecretVault v = vault(1);
            for (int place = 1; place <= 24; place++) {
                int x = place;
                due("place " + place, thrownBy(() -> v.share(0, x, 0)), place % 3 == 1 ? "none" : NONE.getName());
                refused("place " + place, NONE, () -> v.share(1, x, 0));
            }
            expelAll(v, 0);
            refused("no shares", NONE, () -> v.share(0, 1, 2));
        });
    }

    private static void setShare() {
        edge(19, "`value`: the value, 0 to 1018", () -> {
            SecretVault v = vault(1);
            due("smallest", v.setShare(0, 1, 0), 123);
            due("smallest", v.share(0, 1, 0), 0);
            due("greatest", v.setShare(0, 1, 1018), 0);
            due("greatest", v.share(0, 1, 0), 1018);
            for (int value : new int[] {-1, 1019, 1020, MIN, MAX}) {
                refused("value " + value, ARGUMENT, () -> v.setShare(0, 1, value));
            }
            due("it stays", v.share(0, 1, 0), 1018);
        });
        edge(19, "`place`: the place, 1 to 24", () -> {
            SecretVault v = full(1);
            due("first", v.setShare(0, 1, 5), 123);
            due("last", v.setShare(0, 24, 6), 123);
            due("only those", v.secret(0, 5), 2);
            for (int place : new int[] {0, -1, 25, MIN, MAX}) {
                refused("place " + place, BOUNDS, () -> v.setShare(0, place, 0));
                refused("slot", BOUNDS, () -> v.setShare(4, 1, 0));
                refused("slot", BOUNDS, () -> v.setShare(-1, 1, 0));
            }
        });
        edge(19, "Throws `java` .util.NoSuchElementException if the slot is empty or has no share at this place", () -> {
            SecretVault v = vault(1);
            for (int place = 1; place <= 24; place++) {
                int x = place;
                if (place % 3 != 1) {
                    refused("place " + place, NONE, () -> v.setShare(0, x, 1));
                }
                refused("empty, place " + place, NONE, () -> v.setShare(3, x, 1));
            }
            due("no share was made", placesOf(v, 0), "1 4 7 10 13 16 19 22");
        });
        edge(19, "Sets the value of a share.", () -> {
            SecretVault v = full(1);
            v.refresh(0);
            v.setShare(0, 5, 122);
            due("its epoch stays", v.share(0, 5, 1), 2);
            due("wrong", v.share(0, 5, 2), 2);
            due("others stay", v.share(0, 4, 0) + v.share(0, 6, 0), 246);
            due("returns the previous value", v.setShare(0, 5, 123), 122);
            due("good", v.share(0, 5, 2), 0);
        });
    }

    private static void shareText() {
        edge(20, "The text of a share is its place, a colon, its value, an at sign, its epoch, a number sign, and the last "
            + "decimal digit of 7 * place + 3 * value + epoch.", () -> {
            SecretVault v = vault(1);
            String[] texts = {"1:0@1#8", "1:1@1#1", "2:2@10#0", "24:1018@9999#1", "9:9@9#9", "10:10@10#0", "3:99@99#7",
                "4:100@100#8", "20:999@999#6", "21:1000@1000#7", "1:0@9#6", "1:0@3#0", "1:0@2#9"};
            for (String text : texts) {
                int place = take(v, 0, text);
                due("text", textOf(v, 0, place), text);
                due("length", v.shareText(0, place, -1), text.length());
            }
        });
        edge(20, "`index`: the index, from 0, or -1 for the length", () -> {
            SecretVault v = vault(1);
            take(v, 0, "24:1018@9999#1");
            take(v, 0, "1:0@1#8");
            due("the longest", v.shareText(0, 24, -1), 14);
            due("its first", v.shareText(0, 24, 0), '2');
            due("its last", v.shareText(0, 24, 13), '1');
            refused("one more", NONE, () -> v.shareText(0, 24, 14));
            due("the shortest", v.shareText(0, 1, -1), 7);
            due("its first", v.shareText(0, 1, 0), '1');
            due("its last", v.shareText(0, 1, 6), '8');
            refused("one more", NONE, () -> v.shareText(0, 1, 7));
            refused(NONE, () -> v.shareText(0, 1, MAX));
        });
        edge(20, "Throws `IndexOutOfBoundsException` if there is no such slot or place, or index is less than -1", () -> {
            SecretVault v = full(1);
            v.put(3, 0, 1);
            due("the last slot and place", v.shareText(3, 24, 0), '2');
            due("the first slot and place", v.shareText(0, 1, 0), '1');
            for (int bad : new int[] {-1, 25, MIN, MAX, 0}) {
                refused("place " + bad, BOUNDS, () -> v.shareText(0, bad, 0));
            }
            for (int bad : new int[] {-1, 4, MIN, MAX}) {
                refused("slot " + bad, BOUNDS, () -> v.shareText(bad, 1, 0));
            }
            for (int bad : new int[] {-2, -3, MIN}) {
                refused("index " + bad, BOUNDS, () -> v.shareText(0, 1, bad));
                refused("index " + bad + ", empty slot", BOUNDS, () -> v.shareText(1, 1, bad));
            }
        });
        edge(20, "Throws `NoSuchElementException` if the slot is empty, has no share at this place, or its text has no such "
            + "index", () -> {
            SecretVault v = vault(1);
            refused("empty slot", NONE, () -> v.shareText(1, 1, -1));
            refused("no share", NONE, () -> v.shareText(0, 2, -1));
            refused("no share", NONE, () -> v.shareText(0, 24, 0));
            refused("no index", NONE, () -> v.shareText(0, 1, 9));
            due("the last index", v.shareText(0, 1, 8), (7 + 369 + 1) % 10 + '0');
        });
    }

    /** What is read of a text in a new vault, and where its error is. */
    private static void reads(String text, int errorPosition) {
        SecretVault v = vault(1);
        expelAll(v, 0);
        type(v, text);
        if (errorPosition < 0) {
            int place = Integer.parseInt(text.substring(0, text.indexOf(':')));
            due(text, v.importShare(0), place);
            due(text + " read and written", textOf(v, 0, place), text);
            due("one share", placesOf(v, 0), String.valueOf(place));
        } else {
            refused(text, ARGUMENT, () -> v.importShare(0));
            due("no share", placesOf(v, 0), "");
        }
        due("error position of " + text, v.errorPosition(), errorPosition);
        due("buffer", v.append(0), 0);
    }

    private static void importedNumbers() {
        edge(21, "a place is from 1 to 24", () -> {
            for (int place = 1; place <= 24; place++) {
                reads(shareText(place, 5, 1), -1);
            }
            reads(shareText(0, 5, 1), 0);
            reads(shareText(25, 5, 1), 0);
            reads(shareText(99, 5, 1), 0);
            reads(shareText(240, 5, 1), 0);
            reads(shareText(9999, 5, 1), 0);
        });
        edge(21, "a value from 0 to 1018", () -> {
            for (int value : new int[] {0, 1, 9, 10, 99, 100, 999, 1000, 1018}) {
                reads(shareText(24, value, 1), -1);
            }
            reads(shareText(24, 1019, 1), 3);
            reads(shareText(24, 1020, 1), 3);
            reads(shareText(24, 9999, 1), 3);
        });
        edge(21, "an epoch from 1 to 9999", () -> {
            for (int epoch : new int[] {1, 9, 10, 99, 100, 999, 1000, 9998, 9999}) {
                reads(shareText(24, 1018, epoch), -1);
            }
            reads(shareText(24, 1018, 0), 8);
            reads(shareText(1, 5, 0), 4);
            reads(shareText(1, 5, 10000), 8);
            reads(shareText(1, 5, 12345), 8);
        });
        edge(21, "The numbers are written with one to four digits that do not start with 0, or 0 alone, and are read as far as "
            + "digits follow that they can have", () -> {
            reads("01:5@1#3", 0);
            reads("001:5@1#3", 0);
            reads("1:05@1#3", 3);
            reads("1:00@1#8", 3);
            reads("1:0018@1#8", 3);
            reads("1:5@01#3", 4);
            reads("1:10180@1#2", 6);
            reads("1:0@1#8", -1);
            reads(":5@1#3", 0);
            reads("1:@1#8", 2);
            reads("1:5@#2", 4);
        });
        edge(21, "Of a number in the text of a share, up to four digits are read, one only if it is 0, and then it is looked "
            + "whether it is in range", () -> {
            reads("1000:5@1#3", 0);
            reads("0", 0);
            reads("00", 0);
            reads("0x", 0);
            reads("25", 0);
            reads("24", 2);
            reads("240", 0);
            reads("2x", 1);
            reads("12345", 0);
            reads("1:1018", 6);
            reads("1:1019", 2);
            reads("1:10185", 6);
            reads("1:01019", 3);
            reads("1:5@9999", 8);
            reads("1:5@99999", 8);
            reads("1:5@0", 4);
            reads("1:5@00", 4);
            reads("1:5@0x", 4);
        });
        edge(21, "the first digit of a number that is out of range", () -> {
            reads("25:1019@0#0", 0);
            reads("24:1019@0#0", 3);
            reads("24:1018@0#0", 8);
        });
        edge(21, "the last digit if it is not the right one", () -> {
            for (char digit = '0'; digit <= '9'; digit++) {
                reads("1:5@1#" + digit, digit == '3' ? -1 : 6);
                reads("1:0@3#" + digit, digit == '0' ? -1 : 6);
                reads("1:0@2#" + digit, digit == '9' ? -1 : 6);
                reads("24:1018@9999#" + digit, digit == '1' ? -1 : 13);
            }
            reads("1:5@1#43", 6);
            reads("1:5@1#4x", 6);
        });
    }

    private static void importedSigns() {
        edge(21, "The error position of such a text is the index of the first character that is not allowed", () -> {
            String good = "24:1018@9999#1";
            for (int i = 0; i < good.length(); i++) {
                for (char other : new char[] {'x', '!', '~', '/', ';'}) {
                    reads(good.substring(0, i) + other + good.substring(i + 1), i);
                }
            }
            reads(good + "1", 14);
            reads(good + "x", 14);
            reads(good + good, 14);
            reads("-1:5@1#3", 0);
            reads("+1:5@1#3", 0);
            reads("1::5@1#3", 2);
            reads("1@5@1#3", 1);
            reads("1:5:1#3", 3);
            reads("1:5@1@3", 5);
            reads("1:5@@1#3", 4);
            reads("1:5@1##3", 6);
        });
        edge(21, "or the length of the text if it ends too early; the first of these counts.", () -> {
            String good = "24:1018@9999#1";
            for (int length = 0; length < good.length(); length++) {
                reads(good.substring(0, length), length);
            }
            reads(good, -1);
            reads("25", 0);
            reads("1:1019", 2);
            reads("1:5@0", 4);
        });
    }

    private static void importShare() {
        edge(21, "puts this share into a slot, in place of an earlier one at its place.", () -> {
            SecretVault v = full(1);
            due("first", take(v, 0, 1, 0, 9999), 1);
            due("last", take(v, 0, 24, 1018, 7), 24);
            due("first", textOf(v, 0, 1), shareText(1, 0, 9999));
            due("last", textOf(v, 0, 24), shareText(24, 1018, 7));
            due("states", statesOf(v, 0), "sggggggggggggggggggggggs");
            v.put(3, 5, 1);
            take(v, 3, 24, 5, 1);
            due("of another slot", v.share(0, 24, 1), 7);
            due("good", v.share(3, 24, 2), 0);
            due("no event", v.event(0), 103);
        });
        edge(21, "a share can be imported at a place that is not used.", () -> {
            SecretVault v = vault(1);
            weigh(v, 0, 0, 0, 0, 0, 0, 0, 0);
            onlyPresent(v, 0);
            for (int place = 1; place <= 24; place++) {
                due("place", take(v, 0, place, 123, 1), place);
            }
            due("all are good", v.secret(0, 3), 24);
        });
        edge(21, "The buffer is empty afterwards, also if IllegalArgumentException is thrown.", () -> {
            SecretVault v = vault(1);
            take(v, 0, "1:5@1#3");
            due("afterwards", v.append(0), 0);
            type(v, "1:5@1#4");
            refused(ARGUMENT, () -> v.importShare(0));
            due("afterwards", v.append(0), 0);
            refused("an empty text ends too early", ARGUMENT, () -> v.importShare(0));
            due("at its length", v.errorPosition(), 0);
            type(v, "0000000000000000000000000000000000000000");
            due("a full buffer", v.append(0), 40);
            refused(ARGUMENT, () -> v.importShare(0));
            due("afterwards", v.append(0), 0);
            due("shares", v.secret(0, 2), 8);
        });
        edge(21, "If setPolicy or importShare throws another exception than IllegalArgumentException, the buffer and the error "
            + "position stay.", () -> {
            SecretVault v = vault(1);
            type(v, "1:5@");
            refused(ARGUMENT, () -> v.importShare(0));
            type(v, "2:5@1#0");
            refused("empty slot", NONE, () -> v.importShare(1));
            for (int slot : new int[] {-1, 4, MIN, MAX}) {
                refused("slot " + slot, BOUNDS, () -> v.importShare(slot));
            }
            due("error position", v.errorPosition(), 4);
            due("buffer", v.append(0), 7);
            due("it is read later", v.importShare(0), 2);
            due("error position", v.errorPosition(), -1);
        });
    }

    private static void bad() {
        edge(22, "`index`: the index, in ascending order of the places, from 0", () -> {
            SecretVault v = full(3);
            for (int place = 24; place >= 1; place--) {
                spoil(v, 0, place);
                due("first", v.bad(0, 0), place);
                due("last", v.bad(0, 24 - place), 24);
                int more = 25 - place;
                refused("no more", NONE, () -> v.bad(0, more));
            }
            for (int i = 0; i < 24; i++) {
                due("index " + i, v.bad(0, i), i + 1);
            }
        });
        edge(22, "Throws `java` .util.NoSuchElementException if the slot is empty or there is no such index", () -> {
            SecretVault v = vault(3);
            refused("all are good", NONE, () -> v.bad(0, 0));
            makeStale(v, 0, 7);
            due("one", v.bad(0, 0), 22);
            for (int index : new int[] {-1, 1, MIN, MAX}) {
                refused("index " + index, NONE, () -> v.bad(0, index));
            }
            refused("empty", NONE, () -> v.bad(1, 0));
            expelAll(v, 0);
            refused("no shares", NONE, () -> v.bad(0, 0));
        });
        edge(22, "Throws `IndexOutOfBoundsException` if there is no such slot", () -> {
            SecretVault v = vault(3);
            v.put(3, 5, 1);
            spoil(v, 3, 4);
            due("last", v.bad(3, 0), 4);
            for (int slot : new int[] {-1, 4, MIN, MAX}) {
                refused("slot " + slot, BOUNDS, () -> v.bad(slot, 0));
            }
        });
        edge(22, "Returns a place with a share that is not good.", () -> {
            SecretVault v = full(3);
            makeStale(v, 0, 2);
            spoil(v, 0, 1);
            take(v, 0, 24, 5, 9);
            due("wrong", v.bad(0, 0), 1);
            due("stale", v.bad(0, 1), 7);
            due("stale", v.bad(0, 3), 9);
            due("a greater epoch", v.bad(0, 4), 24);
            refused(NONE, () -> v.bad(0, 5));
        });
    }
}
