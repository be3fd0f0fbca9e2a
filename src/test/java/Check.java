/** What the tests share: they count what is wrong, tell it, and end with exit code 1 if there was something. */
final class Check {
    /** A call whose answer, or whose exception, is looked at. */
    interface Call {
        Object answer();
    }

    private static final int MOST_TOLD = 20;
    private static int checks = 0;
    private static int wrong = 0;
    private static String head = "";

    private Check() {
    }

    /** What the checks that follow are about. */
    static void head(String text) {
        head = text + ": ";
    }

    /** The answer of a call, or the name of its exception. */
    static Object answerOf(Call call) {
        try {
            return call.answer();
        } catch (RuntimeException thrown) {
            return thrown.getClass().getName();
        }
    }

    static void due(String what, Object want, Call call) {
        Object got = answerOf(call);
        checks++;
        if (!want.equals(got)) {
            tell(head + what + " answered " + got + ", due is " + want);
        }
    }

    /** Compares texts of many lines and tells the first line that is not the same. */
    static void same(String what, String want, String got) {
        String[] due = want.split("\n");
        String[] lines = got.split("\n");
        int same = 0;
        while (same < due.length && same < lines.length && due[same].equals(lines[same])) {
            same++;
        }
        String wanted = same < due.length ? due[same] : "no more lines";
        String seen = same < lines.length ? lines[same] : "no more lines";
        due(what + ", line " + same, wanted, () -> seen);
    }

    /** The class has to be the very one: a subclass of it would be an exception of the machine's own. */
    static void refused(String what, Class<? extends RuntimeException> want, Call call) {
        due(what, want.getName(), call);
    }

    static void tell(String line) {
        wrong++;
        if (wrong <= MOST_TOLD) {
            System.out.println(line);
        }
    }

    static int wrongSoFar() {
        return wrong;
    }

    static void end() {
        System.out.println(wrong == 0 ? checks + " checks, all as due" : wrong + " are not as due");
        if (wrong != 0) {
            System.exit(1);
        }
    }
}
