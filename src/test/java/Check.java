/** What the tests share: they count what is wrong, tell it, and end with exit code 1 if there was something. */
final class Check {
    /** A call whose answer, or whose exception, is looked at. */
    interface Call {
        Object answer();
    }

    private static final int MOST_TOLD = 20;
    private static int checks = 0;
    private static int wrong = 0;

    private Check() {
    }

    static void due(String what, Object want, Call call) {
        Object got;
        try {
            got = call.answer();
        } catch (RuntimeException thrown) {
            got = thrown.getClass().getName();
        }
        checks++;
        if (!want.equals(got)) {
            tell(what + " answered " + got + ", due is " + want);
        }
    }

    /** The class has to be the very one: a subclass of it would be an exception of the machine's own. */
    static void refused(String what, Class<? extends RuntimeException> want, Call call) {
        due(what, want.getName(), call);
    }

    static void tell(String line) {
        wrong++;
        if (wrong <= MOST_TOLD) {
            System.out.println(line);
        }
    }

    static int wrongSoFar() {
        return wrong;
    }

    static void end() {
        System.out.println(wrong == 0 ? checks + " checks, all as due" : wrong + " are not as due");
        if (wrong != 0) {
            System.exit(1);
        }
    }
}
