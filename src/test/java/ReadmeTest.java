import java.io.IOException;
import java.lang.reflect.Method;
import java.lang.reflect.Modifier;
import java.nio.file.Files;
import java.nio.file.Path;
import java.util.ArrayList;
import java.util.List;

/** The example of README.md, which has to be the very one that is run here, and the calls that it names. */
public final class ReadmeTest {
    private static final Path README = Path.of("README.md");
    private static final Path SOURCE = Path.of("src/test/java/ReadmeTest.java");
    private static final String INDENT = "        ";

    public static void main(String[] args) throws IOException {
        example();
        Check.due("the example", between(SOURCE, INDENT + "// README", INDENT + "// end"),
                () -> between(README, "```java", "```"));
        String readme = Files.readString(README);
        for (Method method : RecyclingSorter.class.getDeclaredMethods()) {
            if (Modifier.isPublic(method.getModifiers())) {
                Check.due("it names " + method.getName(), true, () -> readme.contains("`" + method.getName() + "`"));
            }
        }
        Check.end();
    }

    private static void example() {
        // README
        RecyclingSorter sorter = new RecyclingSorter();
        sorter.addMachine(0, 90, 5, 100, 3);     // catches 90 of 100 kilos of material 0, and 5 of 100 of the others
        sorter.addMachine(1, 80, 10, 60, 2);
        sorter.feed(0, 300);
        sorter.feed(1, 150);
        sorter.feed(2, 50);
        int passes = sorter.run(200);            // 9 passes, then the hopper is empty
        long bales = sorter.account(10);         // 7 bales of 50 kilos

        sorter.contract(0, 900, 200, 3);         // 200 kilos of material 0, at least 900 of 1000 pure, for 3 a kilo
        sorter.contract(1, 700, 500, 4);
        sorter.save();
        int sold = sorter.sellAll();             // 6 bales
        long paid = sorter.account(13);          // 1000

        for (char letter : "f2=40;r9;s0".toCharArray()) {
            sorter.append(letter);
        }
        String told = "";
        try {
            sorter.perform();
        } catch (UnsupportedOperationException refused) {
            // Command 2 of the text, from 0, is a sale that is refused for the reason 1: the bale isn't in stock.
            told = "command " + sorter.report(0, true) + ", reason " + sorter.report(2, false);
        }
        long fed = sorter.account(2);            // still 50, since a text is carried out as a whole or not at all
        int changes = sorter.undo();             // takes sellAll back, and 7 more changes can be taken back
        sorter.restore();                        // as it was saved, and no change can be taken back any more
        // end
        String heard = told;
        Check.due("passes", 9, () -> passes);
        Check.due("an empty hopper", 0L, () -> sorter.account(5));
        Check.due("bales", 7L, () -> bales);
        Check.due("their kilos", 50, () -> sorter.bale(6, 6));
        Check.due("sold", 6, () -> sold);
        Check.due("paid", 1000L, () -> paid);
        Check.due("told", "command 2, reason 1", () -> heard);
        Check.due("fed", 50L, () -> fed);
        Check.due("changes", 7, () -> changes);
        Check.refused("none after restore", IllegalStateException.class, sorter::undo);
    }

    private static List<String> between(Path file, String first, String last) {
        List<String> lines = new ArrayList<>();
        boolean isInside = false;
        for (String line : linesOf(file)) {
            if (isInside && line.equals(last)) {
                return lines;
            }
            if (isInside) {
                lines.add(line.startsWith(INDENT) && file.equals(SOURCE) ? line.substring(INDENT.length()) : line);
            }
            isInside |= line.equals(first);
        }
        return lines;
    }

    private static List<String> linesOf(Path file) {
        try {
            return Files.readAllLines(file);
        } catch (IOException missing) {
            return List.of();
        }
    }
}
