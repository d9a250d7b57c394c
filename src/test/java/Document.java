import java.io.IOException;
import java.io.UncheckedIOException;
import java.nio.file.Files;
import java.nio.file.Path;
import java.util.ArrayList;
import java.util.List;
import java.util.Set;

/**
 * The document, sentence by sentence, from its first line to its last, and which of its words the cases quote. A quote
 * counts where the document says it: in the part before the promises, or under the heading of the promise that it names.
 */
final class Document {
    /** Titles, and sentences of which no call can be asked. */
    private static final Set<String> NOTHING_TO_ASK = Set.of(
        "Numbers.", "Random numbers.", "Members.", "Secrets.", "Dealing.", "States of shares.", "Refreshing.",
        "Interpolation.", "Policies.", "Texts of shares.", "Opening.", "Reports.", "More exactly.",
        "Members and random numbers.", "Shares.", "Groups.", "Reports, events, snapshots.",
        "The class is not thread-safe.",
        // RulesTest compares the signatures with the class.
        "The constructor and the methods follow, a promise each: the signature, then what it does.");

    private static final String RAW = read();
    private static final String TEXT = RAW.replaceAll("\\s+", " ");
    private static final int PROMISES = TEXT.indexOf("## Promise 1:");
    private static final int NOT_PROMISED = TEXT.indexOf("## Not promised");
    private static final boolean[] QUOTED = new boolean[TEXT.length()];

    private Document() { }

    private static String read() {
        try {
            return Files.readString(Path.of("../shared/DOC.md"));
        } catch (IOException e) {
            throw new UncheckedIOException(e);
        }
    }

    /** Whether the document says this where it tells all promises or this one; then it is quoted. */
    static boolean quotes(int promise, String sentence) {
        int begin = TEXT.indexOf("## Promise " + promise + ":");
        int next = TEXT.indexOf("## Promise " + (promise + 1) + ":");
        boolean general = mark(sentence, 0, PROMISES);
        return mark(sentence, begin, next < 0 ? NOT_PROMISED : next) || general;
    }

    private static boolean mark(String sentence, int begin, int end) {
        boolean found = false;
        int at = TEXT.indexOf(sentence, begin);
        while (at >= 0 && at + sentence.length() <= end) {
            found = true;
            for (int i = at; i < at + sentence.length(); i++) {
                QUOTED[i] = true;
            }
            at = TEXT.indexOf(sentence, at + 1);
        }
        return found;
    }

    /** The sentences that no case quotes, or of which words are left that none quotes. */
    static List<String> unquoted() {
        List<String> left = new ArrayList<>();
        int at = 0;
        for (String sentence : sentences()) {
            int begin = TEXT.indexOf(sentence, at);
            at = begin + sentence.length();
            if (begin < 0) {
                throw new IllegalStateException("not found again: " + sentence);
            }
            if (begin < NOT_PROMISED && !NOTHING_TO_ASK.contains(sentence) && !isQuoted(begin, at)) {
                left.add(heading(begin) + ": " + sentence);
            }
        }
        return left;
    }

    private static boolean isQuoted(int begin, int end) {
        for (int i = begin; i < end; i++) {
            if (!QUOTED[i] && Character.isLetterOrDigit(TEXT.charAt(i))) {
                return false;
            }
        }
        return true;
    }

    private static String heading(int at) {
        int begin = TEXT.lastIndexOf("## ", at);
        return TEXT.substring(begin + 3, Math.min(begin + 16, at)).replaceAll(":.*", "");
    }

    /** In the document's order; headings and signatures are no sentences. */
    static List<String> sentences() {
        List<String> sentences = new ArrayList<>();
        String prose = RAW.replaceAll("(?s)```.*?```", "").replaceAll("(?m)^- ", "\n").replaceAll("(?m)^#.*$", "");
        for (String block : prose.split("\n *\n")) {
            String line = block.replaceAll("\\s+", " ").strip();
            boolean signature = line.matches("`[A-Za-z ]+\\(.*`");
            if (!line.isEmpty() && !signature) {
                sentences.addAll(List.of(line.split("(?<=\\.) (?=[A-Z])")));
            }
        }
        return sentences;
    }
}
