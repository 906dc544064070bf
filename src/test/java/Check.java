/** Compares what a call answered with what is due, and keeps count of what was wrong. */
final class Check {
    private static final int MOST_SHOWN = 40;
    private static int wrong = 0;
    private static int made = 0;

    private Check() {
    }

    static void due(String call, long got, long want) {
        made++;
        if (got != want) {
            fault(call + " answered " + got + ", due is " + want);
        }
    }

    static void due(String what, String got, String want) {
        made++;
        if (!want.equals(got)) {
            fault(what + " is \"" + got + "\", due is \"" + want + "\"");
        }
    }

    static void fault(String text) {
        wrong++;
        if (wrong <= MOST_SHOWN) {
            System.out.println(text);
        }
    }

    static boolean allRight() {
        return wrong == 0;
    }

    /** Ends a test's main method. */
    static void end() {
        System.out.println(wrong == 0 ? made + " answers as due" : wrong + " of " + made + " answers not as due");
        if (wrong != 0) {
            System.exit(1);
        }
    }
}
