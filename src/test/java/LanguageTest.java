import java.io.IOException;
import java.lang.reflect.Field;
import java.lang.reflect.Method;
import java.lang.reflect.Modifier;
import java.nio.file.Files;
import java.nio.file.Path;
import java.util.ArrayList;
import java.util.List;
import java.util.TreeSet;
import java.util.regex.Matcher;
import java.util.regex.Pattern;

/** Looks at the source and the class for what LANGUAGE.md and the document's face leave out; run it in the root. */
public final class LanguageTest {
    private static final Path SOURCE = Path.of("src/main/java/RecyclingSorter.java");
    private static final Path DOCUMENT = Path.of("../shared/DOC.md");
    private static final int MOST_LINES = 60;
    private static final int MOST_CLASSES = 12;
    private static final int MOST_FIELDS = 20;
    private static final int MOST_PARAMETERS = 7;

    private static final String[] FORBIDDEN = {"\\btry\\b", "\\bcatch\\b", "\\bfinally\\b", "->", "::", "\\bassert\\b",
        "\\bsynchronized\\b", "\\bvar\\b", "\\binstanceof\\b", "\\bequals\\b", "\\bhashCode\\b", "\\btoString\\b",
        "\"\\s*\\+", "\\+\\s*\"", "\\w+Exact\\b", "\\bSystem\\.(?!arraycopy)", "\\bnew int\\[[^\\]]*\\]\\[",
        "\\bprotected\\b", "\\bpackage\\b", "[^\\x00-\\x7f]"};

    public static void main(String[] args) throws IOException {
        String source = Files.readString(SOURCE);
        String code = source.replaceAll("(?s)/\\*.*?\\*/", "").replaceAll("//[^\n]*", "");
        for (String forbidden : FORBIDDEN) {
            Matcher matcher = Pattern.compile(forbidden).matcher(code);
            Check.due("found " + forbidden, false, matcher::find);
        }
        Check.due("imports", List.of("import java.util.NoSuchElementException;"),
                () -> source.lines().filter(line -> line.startsWith("import")).toList());
        lookAtMethods(code);
        lookAtFace();
        lookAtHeads(source);
        lookAtClasses();
        Check.end();
    }

    /** A method is what stands between a line with its head and the next brace as far in as the head. */
    private static void lookAtMethods(String code) {
        String head = "";
        int lines = 0;
        for (String line : code.split("\n")) {
            lines++;
            if (line.matches(" {4}(?: {4})?[a-zA-Z].*\\(.*") && !line.endsWith(";") && !line.contains(" class ")) {
                head = line;
                lines = 1;
            }
            if (!head.isEmpty() && line.equals(head.replaceAll("\\S.*", "}"))) {
                String method = head.trim();
                int length = lines;
                Check.due(method + " is short", true, () -> length <= MOST_LINES);
                head = "";
            }
        }
    }

    private static void lookAtFace() throws IOException {
        TreeSet<String> due = new TreeSet<>();
        Pattern pattern = Pattern.compile(" {4}public (\\w+) (\\w+)\\((.*?)\\)(?: throws (.*))?;");
        Files.readString(DOCUMENT).lines().map(pattern::matcher).filter(Matcher::matches)
                .forEach(line -> due.add(line.group(1) + " " + line.group(2) + "("
                        + line.group(3).replaceAll("(\\w+) \\w+", "$1") + ")"
                        + (line.group(4) == null ? "" : line.group(4))));
        TreeSet<String> got = new TreeSet<>();
        TreeSet<String> hidden = new TreeSet<>();
        for (Method method : RecyclingSorter.class.getDeclaredMethods()) {
            if (Modifier.isPrivate(method.getModifiers())) {
                hidden.add(method.getName());
                continue;
            }
            got.add(method.getReturnType().getSimpleName() + " " + method.getName() + "("
                    + names(method.getParameterTypes()) + ")" + names(method.getExceptionTypes()));
        }
        Check.due("the document's methods", 30, due::size);
        Check.due("the face", due, () -> got);
        for (String face : due) {
            String name = face.replaceAll(".* (\\w+)\\(.*", "$1");
            Check.due("private " + name, false, () -> hidden.contains(name));
        }
    }

    /** The heads of the calls and the lines ahead of groups of them, in the order of the document. */
    private static void lookAtHeads(String source) throws IOException {
        String document = Files.readString(DOCUMENT);
        List<String> due = new ArrayList<>();
        Pattern pattern = Pattern.compile(" {4}(public \\w+ (\\w+)\\(.*);");
        document.lines().map(pattern::matcher).filter(Matcher::matches).forEach(head -> {
            Matcher group = Pattern.compile("Ahead of the calls `" + head.group(2) + "`.*: (---- .*)\\.")
                    .matcher(document);
            if (group.find()) {
                due.add(group.group(1));
            }
            due.add(head.group(1));
        });
        List<String> got = new ArrayList<>();
        Matcher line = Pattern.compile("(?m)^ {4}(?:// (---- .*)|(public \\w+ \\w+\\([^{;]*?)\\s*\\{)$")
                .matcher(source);
        while (line.find() && got.size() < due.size()) {
            got.add(line.group(1) != null ? line.group(1) : line.group(2).replaceAll("\\s+", " "));
        }
        Check.due("the document's heads", 30 + 6, due::size);
        Check.same("the heads", String.join("\n", due), String.join("\n", got));
    }

    private static String names(Class<?>[] types) {
        List<String> names = new ArrayList<>();
        for (Class<?> type : types) {
            names.add(type.getSimpleName());
        }
        return String.join(", ", names);
    }

    private static void lookAtClasses() {
        Class<?>[] inside = RecyclingSorter.class.getDeclaredClasses();
        Check.due("few classes", true, () -> inside.length + 1 <= MOST_CLASSES);
        List<Class<?>> all = new ArrayList<>(List.of(inside));
        all.add(RecyclingSorter.class);
        for (Class<?> each : all) {
            int fields = 0;
            for (Field field : each.getDeclaredFields()) {
                boolean isStatic = Modifier.isStatic(field.getModifiers());
                fields += isStatic ? 0 : 1;
                Check.due("a static field is final, " + field.getName(), true,
                        () -> !isStatic || Modifier.isFinal(field.getModifiers()));
                Check.due("a field of the face is private, " + field.getName(), true,
                        () -> each != RecyclingSorter.class || Modifier.isPrivate(field.getModifiers()));
            }
            int many = fields;
            Check.due("few fields in " + each.getName(), true, () -> many <= MOST_FIELDS);
            for (Method method : each.getDeclaredMethods()) {
                Check.due("few parameters of " + method.getName(), true,
                        () -> method.getParameterCount() <= MOST_PARAMETERS);
            }
        }
    }
}
