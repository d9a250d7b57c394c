import java.util.ArrayList;
import java.util.List;
import java.util.Random;

/**
 * A policy that is made as a tree before it is written, so that what its text means is known without reading it. An
 * any ('|') and an all ('&') have several parts, a count ('o') has one or more, a member ('m') has none.
 */
final class Tree {
    private final char kind;
    private final int number;
    private final List<Tree> parts = new ArrayList<>();

    private Tree(char kind, int number) {
        this.kind = kind;
        this.number = number;
    }

    /** The tree with this number; its longest text fits into the buffer. */
    static Tree number(int seed) {
        Random random = new Random(seed);
        Tree tree = of(random, 3);
        while (tree.shortest().length() > 30) {
            tree = of(random, 3);
        }
        return tree;
    }

    private static Tree of(Random random, int depth) {
        int choice = depth == 0 ? 0 : random.nextInt(5);
        if (choice < 1) {
            return new Tree('m', random.nextInt(8));
        }
        char kind = choice == 1 || choice == 2 ? '&' : choice == 3 ? '|' : 'o';
        Tree tree = new Tree(kind, 1 + random.nextInt(random.nextInt(4) == 0 ? 9 : 3));
        int size = (kind == 'o' ? 1 : 2) + random.nextInt(3);
        for (int i = 0; i < size; i++) {
            tree.parts.add(of(random, depth - 1));
        }
        return tree;
    }

    /** Without parentheses that are not needed. */
    String shortest() {
        if (kind == 'm') {
            return String.valueOf(number);
        }
        List<String> texts = new ArrayList<>();
        for (Tree part : parts) {
            texts.add(kind == '&' && part.kind == '|' ? "(" + part.shortest() + ")" : part.shortest());
        }
        return joined(texts);
    }

    /** With parentheses that are not needed here and there, as far as the buffer holds them. */
    String written(Random random) {
        String text = longer(random, 2);
        for (int tries = 0; text.length() > 40 && tries < 20; tries++) {
            text = longer(random, 8);
        }
        return text.length() > 40 ? shortest() : text;
    }

    private String longer(Random random, int seldom) {
        List<String> texts = new ArrayList<>();
        for (Tree part : parts) {
            String text = part.longer(random, seldom);
            boolean bare = part.kind == '|' && !isInParentheses(text);
            texts.add(kind == '&' && bare ? "(" + text + ")" : text);
        }
        String text = kind == 'm' ? String.valueOf(number) : joined(texts);
        return random.nextInt(seldom) == 0 ? "(" + text + ")" : text;
    }

    private static boolean isInParentheses(String text) {
        int open = 0;
        for (int i = 0; i < text.length() - 1; i++) {
            open += text.charAt(i) == '(' ? 1 : text.charAt(i) == ')' ? -1 : 0;
            if (open == 0) {
                return false;
            }
        }
        return true;
    }

    private String joined(List<String> texts) {
        return kind == 'o' ? number + "of(" + String.join(",", texts) + ")" : String.join(String.valueOf(kind), texts);
    }

    boolean holds(int set) {
        if (kind == 'm') {
            return (set >> number) % 2 == 1;
        }
        int met = 0;
        for (Tree part : parts) {
            met += part.holds(set) ? 1 : 0;
        }
        return met >= (kind == '|' ? 1 : kind == '&' ? parts.size() : number);
    }

    int membersAndCounts() {
        int sum = kind == 'm' || kind == 'o' ? 1 : 0;
        for (Tree part : parts) {
            sum += part.membersAndCounts();
        }
        return sum;
    }

    int nestedCounts() {
        int most = 0;
        for (Tree part : parts) {
            most = Math.max(most, part.nestedCounts());
        }
        return most + (kind == 'o' ? 1 : 0);
    }

    int members() {
        int set = kind == 'm' ? 1 << number : 0;
        for (Tree part : parts) {
            set |= part.members();
        }
        return set;
    }
}
