/** Compares answers with what is due, and counts those that differ. */
final class Due {
    private static int wrong = 0;
    private static int asked = 0;
    private static final int MOST_PRINTED = 50;

    private Due() {
    }

    static void is(String call, long got, long want) {
        asked++;
        if (got != want) {
            report(call + " answered " + got + ", due is " + want);
        }
    }

    static void holds(String what, boolean stands) {
        asked++;
        if (!stands) {
            report(what + " does not hold");
        }
    }

    private static void report(String text) {
        wrong++;
        if (wrong <= MOST_PRINTED) {
            System.out.println(text);
        }
    }

    static int wrong() {
        return wrong;
    }

    static int asked() {
        return asked;
    }
}
