import java.io.IOException;
import java.io.UncheckedIOException;
import java.nio.file.Files;
import java.nio.file.Path;
import java.util.Set;
import java.util.TreeSet;

/**
 * The document's own sentences. A test quotes the sentence that it is about, so that a test of a sentence that the
 * document no longer has, or never had, fails.
 */
final class Document {
    private static final Path FILE = Path.of("../shared/DOC.md");
    private static final String[] SECTIONS = read().split("\n## ");
    private static final Set<String> QUOTED = new TreeSet<>();

    private Document() {
    }

    /** The checks that follow are about this sentence of a section: "Terms", or "Promise 1" to "Promise 31". */
    static void about(String section, String sentence) {
        QUOTED.add(section + ": " + sentence);
        Check.head(section + ", " + sentence);
        Check.due("the document says so", true, () -> oneLine(section(section)).contains(oneLine(sentence)));
    }

    /** Each exception that the document names has to have been quoted. */
    static void needEachRefusalQuoted() {
        Check.head("refusals without a test of their own");
        int refusals = 0;
        for (String section : SECTIONS) {
            for (String line : section.split("\n")) {
                if (line.startsWith("Throws ")) {
                    String quote = section.substring(0, section.indexOf(':')) + ": " + line.trim();
                    Check.due(quote, true, () -> QUOTED.contains(quote));
                    refusals++;
                }
            }
        }
        int all = refusals;
        Check.due("the document names some", true, () -> all > 0);
    }

    private static String read() {
        try {
            return Files.readString(FILE);
        } catch (IOException missing) {
            throw new UncheckedIOException(missing);
        }
    }

    private static String section(String name) {
        for (String section : SECTIONS) {
            if (section.startsWith(name + ":") || section.startsWith(name + "\n")) {
                return section;
            }
        }
        return "";
    }

    private static String oneLine(String text) {
        return text.replaceAll("\\s+", " ");
    }
}
