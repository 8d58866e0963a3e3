import java.util.ArrayList;
import java.util.Arrays;
import java.util.List;

/**
 * Words of the document that have a test of their own. The runs are named by them, and in the end
 * the document is looked through for words that no test has quoted.
 */
final class Sentence {
    private static final List<Sentence> TESTED = new ArrayList<>();

    private final String section;
    private final String words;

    /** The section is the beginning of a heading of the document, up to a colon if it has one. */
    Sentence(String section, String words) {
        this.section = section;
        this.words = words;
    }

    Run run() {
        TESTED.add(this);
        return new Run(section + ", \"" + words + "\"");
    }

    /** A run that holds these calls alone. */
    Sentence calls(String script) {
        run().calls(script);
        return this;
    }

    /** A run that loads a drawing of so many panes and then makes the calls. */
    Sentence on(String drawing, int panes, String script) {
        run().load(drawing, panes).calls(script);
        return this;
    }

    /** A run that types a text and then makes the calls. */
    Sentence typed(String text, String script) {
        run().type(text).calls(script);
        return this;
    }

    /** Counts it as wrong if a word of these sections of the document has no test. */
    static void checkDocument(List<String> lines) {
        String section = "";
        StringBuilder text = new StringBuilder();
        for (String line : lines) {
            if (line.startsWith("## ")) {
                checkSection(section, text.toString());
                section = line.substring(3).split(":")[0];
                text.setLength(0);
            } else if (!line.isBlank() && !isOutline(line)) {
                text.append(' ').append(line.trim());
            }
        }
        checkSection(section, text.toString());
    }

    /** Signatures and dividers promise nothing, and the examples have their own test. */
    private static boolean isOutline(String line) {
        return line.startsWith("`") || line.startsWith("----") || line.startsWith("Examples: ")
                || line.matches("[1-4]\\. .*") || line.startsWith("The constructor and the methods");
    }

    private static void checkSection(String section, String text) {
        boolean promised = section.equals("Description") || section.startsWith("Promise ");
        boolean[] quoted = new boolean[text.length()];
        for (Sentence sentence : TESTED) {
            if (sentence.section.equals(section)) {
                Run.due(section, "holds \"" + sentence.words + "\"",
                        quote(text, sentence.words, quoted) ? 1 : 0, 1);
            }
        }
        for (int i = 0; promised && i < text.length(); i++) {
            if (Character.isLetterOrDigit(text.charAt(i)) && !quoted[i]) {
                Run.due(section, "words with a test before \"" + text.substring(i) + "\"", 0, 1);
                return;
            }
        }
    }

    private static boolean quote(String text, String words, boolean[] quoted) {
        boolean found = false;
        for (int at = text.indexOf(words); at >= 0; at = text.indexOf(words, at + 1)) {
            Arrays.fill(quoted, at, at + words.length(), true);
            found = true;
        }
        return found;
    }
}
