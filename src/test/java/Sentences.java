import java.io.IOException;
import java.nio.file.Files;
import java.nio.file.Path;
import java.util.ArrayList;
import java.util.List;

/**
 * The sentences of the document that the tests quote. Each quote has to stand under its heading,
 * has to be followed by a check, and at last all of the document has to be quoted.
 */
final class Sentences {

    private static final Path DOCUMENT = Path.of("../shared/DOC.md");

    private static final List<String> HEADINGS = new ArrayList<>();
    private static final List<StringBuilder> TEXTS = new ArrayList<>();
    private static final List<List<String>> LINES = new ArrayList<>();
    private static final List<boolean[]> QUOTED = new ArrayList<>();

    private static String title = "";
    private static int current = -1;
    private static String latest = "";
    private static int askedBefore = 0;

    private Sentences() {
    }

    static void read() throws IOException {
        if (!Files.exists(DOCUMENT)) {
            System.out.println("no document there: the quotes are not compared with it");
            return;
        }
        for (String line : Files.readAllLines(DOCUMENT)) {
            if (line.startsWith("#") || line.startsWith("== ")) {
                HEADINGS.add(line.replaceFirst("^[#=]+ ", ""));
                TEXTS.add(new StringBuilder());
                LINES.add(new ArrayList<>());
            } else if (!line.startsWith("```") && !line.isBlank()) {
                TEXTS.get(TEXTS.size() - 1).append(line.strip()).append(' ');
                LINES.get(LINES.size() - 1).add(line.strip());
            }
        }
        for (StringBuilder text : TEXTS) {
            QUOTED.add(new boolean[text.length()]);
        }
    }

    /** The following quotes stand under this heading. */
    static void under(String heading) {
        endQuote();
        title = heading;
        current = HEADINGS.indexOf(heading);
        if (current < 0 && !HEADINGS.isEmpty()) {
            throw new IllegalStateException("no heading " + heading);
        }
    }

    static List<String> lines() {
        return current < 0 ? List.of() : LINES.get(current);
    }

    /** The following checks are about these words, which follow each other or belong together. */
    static void says(String... quotes) {
        endQuote();
        for (String quote : quotes) {
            mark(quote);
        }
        latest = title + ": \"" + String.join("\" \"", quotes) + "\"";
        askedBefore = Checks.asked();
        Checks.about(latest);
    }

    /** Words that no test is about, as they promise nothing that is not promised elsewhere too. */
    static void alsoSays(String... quotes) {
        for (String quote : quotes) {
            mark(quote);
        }
    }

    /** At last: all of the document was quoted. */
    static void requireAll() {
        endQuote();
        for (int section = 0; section < HEADINGS.size(); section++) {
            Checks.about("the quotes under " + HEADINGS.get(section));
            Checks.due("what is not quoted", unquoted(section), "");
        }
    }

    private static void endQuote() {
        if (!latest.isEmpty()) {
            Checks.due("whether there are checks", Checks.asked() > askedBefore, true);
        }
        latest = "";
    }

    private static void mark(String quote) {
        if (current < 0) {
            return;
        }
        String text = TEXTS.get(current).toString();
        int at = text.indexOf(quote);
        if (at < 0) {
            throw new IllegalStateException(title + " does not say: " + quote);
        }
        for (; at >= 0; at = text.indexOf(quote, at + 1)) {
            for (int i = at; i < at + quote.length(); i++) {
                QUOTED.get(current)[i] = true;
            }
        }
    }

    private static String unquoted(int section) {
        StringBuilder left = new StringBuilder();
        for (int i = 0; i < QUOTED.get(section).length; i++) {
            char sign = TEXTS.get(section).charAt(i);
            if (!QUOTED.get(section)[i] && sign != ' ') {
                left.append(sign);
            }
        }
        return left.toString();
    }
}
