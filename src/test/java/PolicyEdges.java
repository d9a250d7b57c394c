/** The edges of promises 23 to 28: the buffer and policies. */
final class PolicyEdges extends Edges {
    private static final String LONGEST = "1of(0,1,2,3,4,5,6,7,0,1,2,3,4,5,6,7,0,1)";
    private static final String DEEPEST = "1of(1of(1of(1of(1of(1of(1of(0)))))))";

    static void run() {
        append();
        appendLimit();
        setPolicy();
        grammar();
        errorPosition();
        shortTexts();
        fulfils();
        counts();
        policyText();
        policySizes();
    }

    // ---- the buffer

    private static void append() {
        edge(23, "Throws `IllegalArgumentException` if a byte that is not 0 is not from 33 to 126", () -> {
            for (int shift = 0; shift <= 24; shift += 8) {
                for (int sign = 1; sign < 256; sign++) {
                    SecretVault v = new SecretVault();
                    int packed = sign << shift;
                    String want = sign >= 33 && sign <= 126 ? "none" : ARGUMENT.getName();
                    due("byte " + sign + " shifted by " + shift, thrownBy(() -> v.append(packed)), want);
                    due("characters", v.append(0), sign >= 33 && sign <= 126 ? 1 : 0);
                }
            }
            SecretVault v = new SecretVault();
            refused("the first of four", ARGUMENT, () -> v.append(0x20303030));
            refused("the last of four", ARGUMENT, () -> v.append(0x3030307F));
            due("none of them is in the buffer", v.append(0), 0);
        });
        edge(23, "the bytes of an int from the most significant one to the least significant one, where bytes that are 0 are "
            + "skipped.", () -> {
            SecretVault v = vault(1);
            v.append('0' << 24 | '|' << 16 | '1' << 8 | '|');
            v.append('2' << 24);
            v.append('|' << 16);
            v.append('3' << 8);
            v.append('|');
            v.append('4' << 24 | '|');
            v.append('5' << 16 | '|' << 8);
            v.append('6' << 24 | '|' << 8);
            due("characters", v.append('7' << 16), 15);
            v.setPolicy(0);
            due("text", policyOf(v, 0), "0|1|2|3|4|5|6|7");
        });
        edge(23, "Returns the number of characters in the buffer.", () -> {
            SecretVault v = new SecretVault();
            due("an empty one", v.append(0), 0);
            due("four", v.append(0x7E7E7E7E), 4);
            due("three more", v.append(0x21002121), 7);
            due("two more", v.append(0x21007E), 9);
            due("one more", v.append(0x21000000), 10);
            due("none more", v.append(0), 10);
        });
    }

    private static void appendLimit() {
        edge(23, "A buffer holds at most 40 characters.", () -> {
            SecretVault v = new SecretVault();
            for (int i = 1; i <= 40; i++) {
                due("one more", v.append('0'), i);
            }
            refused("one too many", STATE, () -> v.append('0'));
            due("none more", v.append(0), 40);
            SecretVault w = vault(1);
            type(w, LONGEST);
            due("a full buffer", w.append(0), 40);
            due("is read as a whole", w.setPolicy(0), false);
            due("text", policyOf(w, 0), LONGEST);
        });
        edge(23, "Throws `IllegalStateException` if there would be more than 40 characters", () -> {
            int[] packed = {0x30000000, 0x30300000, 0x30303000, 0x30303030};
            for (int before = 36; before <= 40; before++) {
                for (int more = 1; more <= 4; more++) {
                    SecretVault v = new SecretVault();
                    type(v, "0".repeat(before));
                    int four = packed[more - 1];
                    boolean taken = before + more <= 40;
                    due(before + " and " + more, thrownBy(() -> v.append(four)), taken ? "none" : STATE.getName());
                    due("characters", v.append(0), taken ? before + more : before);
                }
            }
        });
        edge(23, "Throws `IllegalStateException` if there would be more than 40 characters", () -> {
            SecretVault v = vault(1);
            type(v, LONGEST);
            refused(STATE, () -> v.append('|'));
            refused("four", STATE, () -> v.append(0x7C7C7C7C));
            v.setPolicy(0);
            due("the buffer stays", policyOf(v, 0), LONGEST);
            due("and has room again", v.append(0x30303030), 4);
        });
    }

    // ---- reading policies

    private static void setPolicy() {
        edge(24, "an empty buffer means no policy.", () -> {
            SecretVault v = vault(1);
            due("none before", v.setPolicy(0), false);
            due("none", v.secret(0, 6), 0);
            give(v, 0, "1");
            due("one before", v.setPolicy(0), true);
            due("none", v.secret(0, 6), 0);
            refused(NONE, () -> v.policy(0, 0));
            due("none before", v.setPolicy(0), false);
        });
        edge(24, "The buffer is empty afterwards, also if IllegalArgumentException is thrown.", () -> {
            SecretVault v = vault(1);
            give(v, 0, "0&1");
            due("afterwards", v.append(0), 0);
            type(v, "0&");
            refused(ARGUMENT, () -> v.setPolicy(0));
            due("afterwards", v.append(0), 0);
            due("the policy stays", policyOf(v, 0), "0&1");
            type(v, "(".repeat(40));
            refused("a full buffer", ARGUMENT, () -> v.setPolicy(0));
            due("afterwards", v.append(0), 0);
        });
        edge(24, "If setPolicy or importShare throws another exception than IllegalArgumentException, the buffer and the error "
            + "position stay.", () -> {
            SecretVault v = vault(1);
            type(v, "0&&");
            refused(ARGUMENT, () -> v.setPolicy(0));
            type(v, "0|7");
            refused("empty slot", NONE, () -> v.setPolicy(1));
            refused("empty slot", NONE, () -> v.setPolicy(3));
            for (int slot : new int[] {-1, 4, MIN, MAX}) {
                refused("slot " + slot, BOUNDS, () -> v.setPolicy(slot));
            }
            due("error position", v.errorPosition(), 2);
            due("buffer", v.append(0), 3);
            v.setPolicy(0);
            due("it is read later", policyOf(v, 0), "0|7");
            due("error position", v.errorPosition(), -1);
        });
        edge(24, "Throws `IndexOutOfBoundsException` if there is no such slot", () -> {
            SecretVault v = vault(1);
            v.put(3, 5, 1);
            due("last", give(v, 3, "7"), false);
            due("last", policyOf(v, 3), "7");
            due("first has none", v.secret(0, 6), 0);
            due("first", give(v, 0, "0"), false);
            due("each its own", v.fulfils(0, 1) && !v.fulfils(3, 1), true);
        });
        edge(24, "Returns whether the secret had a policy before.", () -> {
            SecretVault v = vault(1);
            due("none", give(v, 0, "0"), false);
            due("one", give(v, 0, "1"), true);
            v.reshare(0, ALL, 2);
            due("it stays", give(v, 0, "2"), true);
            v.put(0, 5, 1);
            due("a new secret has none", give(v, 0, "3"), false);
        });
        edge(24, "Throws `IllegalArgumentException` if the text is not empty and has an error", () -> {
            SecretVault v = vault(1);
            for (String text : new String[] {"0", "7", LONGEST, DEEPEST, "(".repeat(19) + "7" + ")".repeat(19)}) {
                give(v, 0, text);
                due("no error", v.errorPosition(), -1);
            }
            for (String text : new String[] {"8", "9", "~", "!", "(".repeat(20) + "7" + ")".repeat(19)}) {
                type(v, text);
                refused(text, ARGUMENT, () -> v.setPolicy(0));
            }
        });
    }

    /** Reads a text in a new vault; the error position is -1 if it has no error. */
    static void reads(String text, int errorPosition) {
        SecretVault v = vault(1);
        type(v, text);
        due(text, thrownBy(() -> v.setPolicy(0)), errorPosition < 0 ? "none" : ARGUMENT.getName());
        due("error position of " + text, v.errorPosition(), errorPosition);
        due("policy " + text, v.secret(0, 6), errorPosition < 0 ? 1 : 0);
        due("buffer", v.append(0), 0);
    }

    private static void grammar() {
        edge(24, "member = one digit from 0 to 7", () -> {
            for (char digit = '0'; digit <= '7'; digit++) {
                reads(String.valueOf(digit), -1);
                reads("0&" + digit, -1);
            }
            reads("8", 1);
            reads("9", 1);
            reads("/", 0);
            reads(":", 0);
            reads("0&8", 3);
            reads("77", 1);
        });
        edge(24, "count = one digit from 1 to 9", () -> {
            for (char digit = '1'; digit <= '9'; digit++) {
                reads(digit + "of(0)", -1);
            }
            reads("0of(0)", 1);
            reads("10of(0)", 1);
            reads("of(0)", 0);
            reads("/of(0)", 0);
            reads(":of(0)", 0);
            reads("0&:of(0)", 2);
        });
        edge(24, "A digit is a count if the next character is the letter o.", () -> {
            reads("1o", 2);
            reads("7o", 2);
            reads("1of", 3);
            reads("1O", 1);
            reads("1f", 1);
            reads("1p", 1);
            reads("1n", 1);
            reads("1of(7o)", 6);
            reads("1of(7)", -1);
        });
        edge(24, "In policies, 0 is always a member, and behind 8 and 9 an o must follow", () -> {
            reads("0o", 1);
            reads("0of(1)", 1);
            reads("1of(0of(1))", 5);
            for (String digit : new String[] {"8", "9"}) {
                reads(digit, 1);
                reads(digit + "o", 2);
                reads(digit + "&0", 1);
                reads(digit + "|0", 1);
                reads("(" + digit + ")", 2);
                reads("1of(" + digit + ")", 5);
                reads(digit + "8", 1);
                reads(digit + "of(0)", -1);
            }
        });
        edge(24, "policy = all { \"|\" all } all = part { \"&\" part }", () -> {
            reads("0", -1);
            reads("0|1", -1);
            reads("0&1", -1);
            reads("0|", 2);
            reads("0&", 2);
            reads("|0", 0);
            reads("&0", 0);
            reads("0||1", 2);
            reads("0&&1", 2);
            reads("0&|1", 2);
            reads("0|&1", 2);
            reads("0|1|2|3|4|5|6|7|0|1|2|3|4|5|6|7|0|1|2|3", -1);
            reads("0&1&2&3&4&5&6&7&0&1&2&3&4&5&6&7&0&1&2&3", -1);
            reads("0&1&2&3&4&5&6&7&0&1&2&3&4&5&6&7&0&1&2&3&", 40);
        });
        edge(24, "part = member | \"(\" policy \")\" | count \"of\" \"(\" policy { \",\" policy } \")\"", () -> {
            reads("()", 1);
            reads("(0)", -1);
            reads("(0", 2);
            reads("0)", 1);
            reads("(0,1)", 2);
            reads("0,1", 1);
            reads("1of()", 4);
            reads("1of(0,)", 6);
            reads("1of(,0)", 4);
            reads("1of(0,1)", -1);
            reads("1of(0,,1)", 6);
            reads("1of(0", 5);
            reads("1of(0,1", 7);
            reads("1of0", 3);
            reads("1of((0,1))", 6);
            reads("1of((0),1)", -1);
            reads("1of(1of(0),1)", -1);
            reads("(1of(0),1)", 7);
            reads("1of(0)0", 6);
            reads("(0)0", 3);
            reads("(0)(1)", 3);
            reads("0(1)", 1);
            reads(DEEPEST, -1);
            reads(DEEPEST + ")", 36);
            reads(LONGEST, -1);
        });
    }

    private static void errorPosition() {
        edge(25, "The error position of a text is the index of the first character that cannot continue a policy, or the length "
            + "of the text if it ends too early.", () -> {
            for (int length = 1; length < LONGEST.length(); length++) {
                boolean whole = length == 1;
                reads(LONGEST.substring(0, length), whole ? -1 : length);
            }
            reads("x", 0);
            reads("0".repeat(40), 1);
            reads("(".repeat(40), 40);
            reads(LONGEST.substring(0, 39) + "x", 39);
            reads(LONGEST.substring(0, 39) + ",", 40);
            reads("0|1|2|3|4|5|6|7|0|1|2|3|4|5|6|7|0|1|2|3x", 39);
            reads("0|1|2|3|4|5|6|7|0|1|2|3|4|5|6|7|0|1|2|3|", 40);
        });
        edge(25, "Returns the error position of the text that setPolicy or importShare read most recently.", () -> {
            SecretVault v = vault(1);
            type(v, "0x");
            due("typing reads nothing", v.errorPosition(), -1);
            refused(ARGUMENT, () -> v.setPolicy(0));
            due("setPolicy", v.errorPosition(), 1);
            type(v, "1:5@x");
            due("typing reads nothing", v.errorPosition(), 1);
            refused(ARGUMENT, () -> v.importShare(0));
            due("importShare", v.errorPosition(), 4);
            take(v, 0, "1:5@1#3");
            due("a good share", v.errorPosition(), -1);
            type(v, "x");
            refused(ARGUMENT, () -> v.importShare(0));
            due("at the beginning", v.errorPosition(), 0);
            give(v, 0, "0");
            due("a good policy", v.errorPosition(), -1);
        });
        edge(25, "Returns the index of the character, or -1 if that text had no error or no text was read.", () -> {
            SecretVault v = vault(1);
            due("no text", v.errorPosition(), -1);
            refused(NONE, () -> v.setPolicy(1));
            refused(NONE, () -> v.importShare(1));
            refused(BOUNDS, () -> v.setPolicy(4));
            due("still none", v.errorPosition(), -1);
        });
        edge(25, "An empty buffer for setPolicy leaves the error position -1.", () -> {
            SecretVault v = vault(1);
            v.setPolicy(0);
            due("at first", v.errorPosition(), -1);
            type(v, "0&");
            refused(ARGUMENT, () -> v.setPolicy(0));
            due("an error", v.errorPosition(), 2);
            v.setPolicy(0);
            due("then none", v.errorPosition(), -1);
        });
    }

    private static void shortTexts() {
        edge(25, "the first character that cannot continue a policy", () -> {
            String signs = "01789of(),|&x";
            int n = signs.length();
            for (int length = 1; length <= 4; length++) {
                int all = (int) Math.round(Math.pow(n, length));
                for (int code = 0; code < all; code += length < 4 ? 1 : 7) {
                    StringBuilder text = new StringBuilder();
                    for (int i = 0, rest = code; i < length; i++, rest /= n) {
                        text.append(signs.charAt(rest % n));
                    }
                    reads(text.toString(), Model.Grammar.error(text.toString()));
                    if (length < 4) {
                        String inner = "2of(0," + text;
                        reads(inner, Model.Grammar.error(inner));
                    }
                }
            }
        });
    }

    // ---- what policies mean

    private static boolean in(int set, int m) {
        return (set >> m) % 2 == 1;
    }

    private static void fulfils() {
        edge(26, "it does if there is no policy.", () -> {
            SecretVault v = vault(1);
            due("the empty set", v.fulfils(0, 0), true);
            due("all members", v.fulfils(0, 255), true);
            give(v, 0, "0");
            due("with one", v.fulfils(0, 0), false);
            give(v, 0, "");
            due("without one again", v.fulfils(0, 0), true);
        });
        edge(26, "Throws `IllegalArgumentException` if a bit is set for no member", () -> {
            SecretVault v = vault(1);
            for (int set : new int[] {256, 257, -1, 65537, MIN, MAX}) {
                refused("set " + set, ARGUMENT, () -> v.fulfils(0, set));
            }
            give(v, 0, "7");
            due("the last bit", v.fulfils(0, 128), true);
            due("all bits", v.fulfils(0, 255), true);
            due("no bit", v.fulfils(0, 0), false);
            refused(ARGUMENT, () -> v.fulfils(0, 256));
            refused(BOUNDS, () -> v.fulfils(4, 255));
            refused(BOUNDS, () -> v.fulfils(-1, 255));
            refused(NONE, () -> v.fulfils(3, 255));
        });
        edge(26, "A member is fulfilled if it is in the set", () -> {
            for (int m = 0; m < 8; m++) {
                SecretVault v = vault(1);
                give(v, 0, String.valueOf(m));
                v.setPresent(m, false);
                for (int set = 0; set < 256; set++) {
                    due("set " + set, v.fulfils(0, set), in(set, m));
                }
            }
        });
        edge(26, "with \"|\" one of the conditions must be fulfilled, with \"&\" all of them", () -> {
            SecretVault or = vault(1);
            give(or, 0, "0|1|2|3|4|5|6|7");
            SecretVault and = vault(1);
            give(and, 0, "0&1&2&3&4&5&6&7");
            SecretVault both = vault(1);
            give(both, 0, "0|1&2|3&4&5");
            SecretVault nested = vault(1);
            give(nested, 0, "(0|1)&(2|3)&(4|5&6)");
            for (int set = 0; set < 256; set++) {
                due("any of " + set, or.fulfils(0, set), set != 0);
                due("all of " + set, and.fulfils(0, set), set == 255);
                due("& binds before |", both.fulfils(0, set),
                    in(set, 0) || in(set, 1) && in(set, 2) || in(set, 3) && in(set, 4) && in(set, 5));
                due("parentheses", nested.fulfils(0, set),
                    (in(set, 0) || in(set, 1)) && (in(set, 2) || in(set, 3)) && (in(set, 4) || in(set, 5) && in(set, 6)));
            }
        });
    }

    private static void counts() {
        edge(26, "with \"of\" at least as many of those in the parentheses as the count says.", () -> {
            for (int count = 1; count <= 9; count++) {
                SecretVault v = vault(1);
                give(v, 0, count + "of(0,1,2,3,4,5,6,7)");
                for (int set = 0; set < 256; set++) {
                    due(count + " of set " + set, v.fulfils(0, set), Integer.bitCount(set) >= count);
                }
            }
            SecretVault v = vault(1);
            give(v, 0, "2of(0&1,2|3,1of(4,5))");
            for (int set = 0; set < 256; set++) {
                int met = (in(set, 0) && in(set, 1) ? 1 : 0) + (in(set, 2) || in(set, 3) ? 1 : 0)
                    + (in(set, 4) || in(set, 5) ? 1 : 0);
                due("set " + set, v.fulfils(0, set), met >= 2);
            }
            SecretVault w = vault(1);
            give(w, 0, "2of(0,1&(2|3),4)&(5|6)");
            for (int set = 0; set < 256; set++) {
                int met = (in(set, 0) ? 1 : 0) + (in(set, 1) && (in(set, 2) || in(set, 3)) ? 1 : 0) + (in(set, 4) ? 1 : 0);
                due("set " + set, w.fulfils(0, set), met >= 2 && (in(set, 5) || in(set, 6)));
            }
        });
        edge(26, "a count can be greater than the number of conditions, and is never fulfilled then.", () -> {
            for (int count = 1; count <= 9; count++) {
                for (int conditions = 1; conditions <= 9; conditions++) {
                    SecretVault v = vault(1);
                    give(v, 0, count + "of(" + "0,".repeat(conditions - 1) + "0)");
                    due(count + " of " + conditions, v.fulfils(0, 255), count <= conditions);
                    due("none is fulfilled", v.fulfils(0, 254), false);
                }
            }
            SecretVault v = vault(1);
            give(v, 0, "2of(0)|1");
            due("never", v.fulfils(0, 1), false);
            due("the other one", v.fulfils(0, 2), true);
        });
    }

    private static void writes(String text, String want) {
        SecretVault v = vault(1);
        give(v, 0, text);
        due("text of " + text, policyOf(v, 0), want);
    }

    private static void policyText() {
        edge(27, "an all with one part is written as this part, a policy with one all as this all", () -> {
            writes("0", "0");
            writes("(0)", "0");
            writes("(".repeat(19) + "7" + ")".repeat(19), "7");
            writes("(0&1)", "0&1");
            writes("((0&1))|2", "0&1|2");
            writes("(1of(0))", "1of(0)");
            writes("(0|1)", "0|1");
            writes("0|(1|2)", "0|1|2");
        });
        edge(27, "a policy with several alls that is one of several parts of an all is put in parentheses, and nothing else is, "
            + "apart from what follows an of.", () -> {
            writes("(0|1)&2", "(0|1)&2");
            writes("2&(0|1)", "2&(0|1)");
            writes("2&(0|1)&3", "2&(0|1)&3");
            writes("2&((0|1))", "2&(0|1)");
            writes("((0|1))&2", "(0|1)&2");
            writes("(0|1)|2", "0|1|2");
            writes("(0)&(1)", "0&1");
            writes("((0|1)|(2|3))&4", "(0|1|2|3)&4");
            writes("1of((0|1),(2))", "1of(0|1,2)");
            writes("1of(((0|1)&2))", "1of((0|1)&2)");
            writes("(1of(0,1))&2", "1of(0,1)&2");
            writes("(1of(0,1)|3)&2", "(1of(0,1)|3)&2");
            writes("1of(0)", "1of(0)");
            writes("((0|1)&2)|3", "(0|1)&2|3");
            writes("(0|1)&(2&3)", "(0|1)&2&3");
            writes("(0|1)&(2)&(3|4)&((5))", "(0|1)&2&(3|4)&5");
        });
        edge(27, "Parts of an all that are alls themselves are written without parentheses.", () -> {
            writes("(0&1)&2", "0&1&2");
            writes("0&(1&2)", "0&1&2");
            writes("0&(1&(2&(3&4)))", "0&1&2&3&4");
            writes("0&((1|2)&3)&4", "0&(1|2)&3&4");
            writes("0&((1|2)&3|4)", "0&((1|2)&3|4)");
        });
        edge(27, "`index`: the index, from 0, or -1 for the length", () -> {
            SecretVault v = vault(1);
            give(v, 0, LONGEST);
            due("the longest", v.policyText(0, -1), 40);
            due("its first", v.policyText(0, 0), '1');
            due("its last", v.policyText(0, 39), ')');
            refused("one more", NONE, () -> v.policyText(0, 40));
            give(v, 0, "7");
            due("the shortest", v.policyText(0, -1), 1);
            due("its only one", v.policyText(0, 0), '7');
            refused("one more", NONE, () -> v.policyText(0, 1));
            refused(NONE, () -> v.policyText(0, MAX));
        });
        edge(27, "Throws `IndexOutOfBoundsException` if there is no such slot, or index is less than -1", () -> {
            SecretVault v = vault(1);
            v.put(3, 5, 1);
            give(v, 0, "0");
            give(v, 3, "3");
            due("first", v.policyText(0, 0), '0');
            due("last", v.policyText(3, 0), '3');
            for (int bad : new int[] {-2, -3, MIN}) {
                refused("index " + bad, BOUNDS, () -> v.policyText(0, bad));
                refused("index " + bad + ", empty", BOUNDS, () -> v.policyText(1, bad));
            }
            for (int bad : new int[] {-1, 4, MIN, MAX}) {
                refused("slot " + bad, BOUNDS, () -> v.policyText(bad, 0));
            }
        });
        edge(27, "Throws `NoSuchElementException` if the slot is empty, there is no policy, or its text has no such index", () -> {
            SecretVault v = vault(1);
            refused("empty", NONE, () -> v.policyText(1, -1));
            refused("no policy", NONE, () -> v.policyText(0, -1));
            give(v, 0, "(0)");
            due("its text, not the one that was read", v.policyText(0, -1), 1);
            refused("no index", NONE, () -> v.policyText(0, 1));
        });
    }

    private static void sizes(String text, int parts, int nesting, int members) {
        SecretVault v = vault(1);
        give(v, 0, text);
        due("parts of " + text, v.policy(0, 0), parts);
        due("nesting of " + text, v.policy(0, 1), nesting);
        due("members of " + text, v.policy(0, 2), members);
    }

    private static void policySizes() {
        edge(28, "0 for the number of parts that are members or counts", () -> {
            sizes("0", 1, 0, 1);
            sizes("((0))", 1, 0, 1);
            sizes("1of(0)", 2, 1, 1);
            sizes("0|0|0|0|0|0|0|0|0|0|0|0|0|0|0|0|0|0|0|0", 20, 0, 1);
            sizes(LONGEST, 19, 1, 255);
            sizes(DEEPEST, 8, 7, 1);
            sizes("(0|1)&(2|3)", 4, 0, 15);
        });
        edge(28, "1 for the greatest number of counts that a part lies in or is", () -> {
            sizes("7", 1, 0, 128);
            sizes("(((7)))&6", 2, 0, 192);
            sizes("9of(7)", 2, 1, 128);
            sizes("1of(0)|1of(1)|1of(2)", 6, 1, 7);
            sizes("1of(1of(0),1)|2", 5, 2, 7);
            sizes("2|1of(1,1of(0))", 5, 2, 7);
            sizes("1of((((0))))", 2, 1, 1);
            sizes("1of((1of(0)))", 3, 2, 1);
            sizes("1of(1of(0),1of(1of(1)))", 6, 3, 3);
            sizes("1of((0|1)&2,1of(1of(3)))", 7, 3, 15);
            sizes("(1of(0)|1)&2", 4, 1, 7);
            sizes("1of(1of(0)&1,2)&3", 6, 2, 15);
        });
        edge(28, "2 for the set of the members that occur", () -> {
            for (int m = 0; m < 8; m++) {
                sizes(String.valueOf(m), 1, 0, 1 << m);
            }
            sizes("0&1&2&3&4&5&6&7", 8, 0, 255);
            sizes("7of(0)", 2, 1, 1);
            sizes("1of(2,3of(4))", 4, 2, 20);
            sizes("2|2&2", 3, 0, 4);
        });
        edge(28, "Throws `IllegalArgumentException` if what is not from 0 to 2", () -> {
            SecretVault v = vault(1);
            give(v, 0, "0");
            for (int what : new int[] {-1, 3, 4, MIN, MAX}) {
                refused("what " + what, ARGUMENT, () -> v.policy(0, what));
                refused("what " + what + " of an empty slot", ARGUMENT, () -> v.policy(1, what));
            }
            due("the least", v.policy(0, 0), 1);
            due("the greatest", v.policy(0, 2), 1);
        });
        edge(28, "Throws `java` .util.NoSuchElementException if the slot is empty or there is no policy", () -> {
            SecretVault v = vault(1);
            for (int what = 0; what < 3; what++) {
                int w = what;
                refused("no policy", NONE, () -> v.policy(0, w));
                refused("empty", NONE, () -> v.policy(3, w));
                refused("no slot", BOUNDS, () -> v.policy(4, w));
                refused("no slot", BOUNDS, () -> v.policy(-1, w));
            }
            v.put(3, 5, 1);
            give(v, 3, "7");
            due("the last slot", v.policy(3, 2), 128);
        });
    }
}
