/** Compares answers with what is due, and counts those that differ. */
final class Due {
    private static int wrong = 0;
    private static int asked = 0;
    private static String test = "";
    private static final int MOST_PRINTED = 50;

    private Due() {
    }

    /** The name of the test that asks from now on. */
    static void begin(String name) {
        test = name;
    }

    static void is(String call, long got, long want) {
        asked++;
        if (got != want) {
            report(call + " answered " + got + ", due is " + want);
        }
    }

    /** For a test with a name: the line that asks tells the call. */
    static void is(long got, long want) {
        asked++;
        if (got != want) {
            report("line " + askingLine() + " answered " + got + ", due is " + want);
        }
    }

    static void holds(String what, boolean stands) {
        asked++;
        if (!stands) {
            report(what + " does not hold");
        }
    }

    private static int askingLine() {
        return StackWalker.getInstance().walk(frames -> frames
            .filter(frame -> !frame.getClassName().equals(Due.class.getName()))
            .findFirst().map(StackWalker.StackFrame::getLineNumber).orElse(0));
    }

    private static void report(String text) {
        wrong++;
        if (wrong <= MOST_PRINTED) {
            System.out.println(test.isEmpty() ? text : test + ": " + text);
        }
    }

    static int wrong() {
        return wrong;
    }

    static int asked() {
        return asked;
    }
}
