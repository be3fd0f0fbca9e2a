import java.io.PrintWriter;
import java.io.StringWriter;
import java.util.ArrayList;
import java.util.List;
import java.util.Map;
import java.util.Set;
import java.util.TreeMap;
import java.util.TreeSet;
import java.util.regex.Matcher;
import java.util.regex.Pattern;
import java.util.spi.ToolProvider;

/** Which calls the compiled class makes: rules 4, 8 and 11 of LANGUAGE.md, as javap tells it. */
public final class CallsTest {
    private static final int MOST_DEEP = 8;
    private static final int FAR_TOO_DEEP = 100;
    private static final String OWN = "RecyclingSorter";
    private static final Pattern CLASS = Pattern.compile("(?:\\w+ )*(?:class|interface) ([\\w$]+).*\\{");
    private static final Pattern METHOD = Pattern.compile(" {2}(?:[\\w$.\\[\\]]+ )*([\\w$]+)\\(.*\\).*;");
    private static final Pattern CALL =
            Pattern.compile("// (?:Interface)?Method (?:([^.:]+|\"[^\"]+\")\\.)?([^:]+):.*");
    /** What rule 4 names, and what the compiler puts in for enums and constructors. */
    private static final Pattern ALLOWED = Pattern.compile("java/lang/(?:"
            + "Math\\.(?:max|min|abs|floorDiv|floorMod)|(?:Integer|Long)\\.(?:compare|max|min|bitCount)"
            + "|String\\.(?:length|charAt|isEmpty|equals|indexOf|substring|toCharArray)|System\\.arraycopy"
            + "|StringBuilder\\.(?:<init>|append|charAt|setCharAt|setLength|deleteCharAt|reverse|length|toString)"
            + "|Object\\.<init>|Enum\\.(?:<init>|valueOf)"
            + "|(?:IllegalState|IllegalArgument|IndexOutOfBounds|Arithmetic|UnsupportedOperation|Runtime)"
            + "Exception\\.<init>)"
            + "|java/util/(?:NoSuchElementException\\.<init>|Arrays\\.(?:copyOf|copyOfRange|fill))"
            + "|java/util/(?:Array)?List\\.(?:<init>|add|get|set|remove|size|isEmpty|clear|of)"
            + "|\\[.*\\.clone");

    private static final Map<String, Set<String>> CALLS = new TreeMap<>();
    private static final Map<String, Integer> DEPTHS = new TreeMap<>();

    private CallsTest() {
    }

    public static void main(String[] args) {
        read();
        Check.due("methods are found", true, () -> CALLS.size() > 100);
        for (String method : CALLS.keySet()) {
            for (String called : CALLS.get(method)) {
                boolean isKnown = called.startsWith(OWN) ? CALLS.containsKey(called) || isOfEnum(called)
                        : ALLOWED.matcher(called).matches();
                Check.due(method + " calls " + called, true, () -> isKnown);
            }
        }
        for (String method : CALLS.keySet()) {
            int depth = depthOf(method, 1);
            Check.due(method + " is " + depth + " deep", true, () -> depth <= MOST_DEEP);
        }
        int deepest = depthOf(OWN + ".perform", 1);
        Check.due("a text goes through several calls", true, () -> deepest > 3);
        Check.end();
    }

    private static boolean isOfEnum(String called) {
        return called.endsWith(".ordinal");
    }

    private static void read() {
        List<String> names = new ArrayList<>(List.of("-p", "-c", "-cp", System.getProperty("java.class.path"), OWN));
        for (Class<?> inside : RecyclingSorter.class.getDeclaredClasses()) {
            names.add(inside.getName());
        }
        StringWriter text = new StringWriter();
        PrintWriter writer = new PrintWriter(text);
        ToolProvider.findFirst("javap").ifPresent(javap -> javap.run(writer, writer, names.toArray(new String[0])));
        writer.flush();
        String owner = "";
        String method = "";
        for (String line : text.toString().split("\\R")) {
            Matcher head = CLASS.matcher(line);
            Matcher member = METHOD.matcher(line);
            Matcher call = CALL.matcher(line.replaceFirst(".*?(?=// (?:Interface)?Method )", ""));
            if (head.matches()) {
                owner = head.group(1);
            } else if (line.equals("  static {};")) {
                method = owner + ".<clinit>";
                CALLS.computeIfAbsent(method, each -> new TreeSet<>());
            } else if (member.matches()) {
                method = owner + "." + (member.group(1).equals(owner) ? "<init>" : member.group(1));
                CALLS.computeIfAbsent(method, each -> new TreeSet<>());
            } else if (call.matches() && !method.isEmpty()) {
                String of = call.group(1) == null ? owner : call.group(1).replace("\"", "");
                CALLS.get(method).add(of + "." + call.group(2).replace("\"", ""));
            }
        }
    }

    /** How many calls of the class's own stand open at once, this one too; far too many if one calls itself. */
    private static int depthOf(String method, int open) {
        if (open > FAR_TOO_DEEP) {
            return FAR_TOO_DEEP;
        }
        if (!DEPTHS.containsKey(method)) {
            int deepest = 0;
            for (String called : CALLS.getOrDefault(method, Set.of())) {
                if (CALLS.containsKey(called)) {
                    deepest = Math.max(deepest, depthOf(called, open + 1));
                }
            }
            DEPTHS.put(method, deepest + 1);
        }
        return DEPTHS.get(method);
    }
}
