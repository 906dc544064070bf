import java.lang.reflect.InvocationTargetException;
import java.lang.reflect.Method;
import java.lang.reflect.Modifier;

/** Compares what a call answered with what is due, and keeps count of what was wrong. */
final class Check {
    private static final int MOST_SHOWN = 40;
    private static int wrong = 0;
    private static int made = 0;
    /** The name of the test that runs and a colon, where tests are run by all(). */
    private static String running = "";

    private Check() {
    }

    static void due(String call, long got, long want) {
        made++;
        if (got != want) {
            fault(call + " answered " + got + ", due is " + want);
        }
    }

    static void due(String what, String got, String want) {
        made++;
        if (!want.equals(got)) {
            fault(what + " is \"" + got + "\", due is \"" + want + "\"");
        }
    }

    static void holds(String what, boolean holds) {
        made++;
        if (!holds) {
            fault("it doesn't hold that " + what);
        }
    }

    static void fault(String text) {
        wrong++;
        if (wrong <= MOST_SHOWN) {
            System.out.println(running + text);
        }
    }

    static boolean allRight() {
        return wrong == 0;
    }

    /**
     * Runs each test of a class, its static methods that take nothing, and ends; one that compares nothing is wrong.
     */
    static void all(Class<?> tests) {
        for (Method method : tests.getDeclaredMethods()) {
            boolean takesNothing = method.getParameterCount() == 0 && method.getReturnType() == void.class;
            if (takesNothing && Modifier.isStatic(method.getModifiers()) && !method.isSynthetic()) {
                run(method);
            }
        }
        running = "";
        end();
    }

    private static void run(Method test) {
        running = test.getName() + ": ";
        int before = made;
        try {
            test.invoke(null);
        } catch (InvocationTargetException e) {
            fault("threw " + e.getCause());
        } catch (IllegalAccessException e) {
            fault("is private");
        }
        if (made == before) {
            fault("compares nothing");
        }
    }

    /** Ends a test's main method. */
    static void end() {
        System.out.println(wrong == 0 ? made + " answers as due" : wrong + " of " + made + " answers not as due");
        if (wrong != 0) {
            System.exit(1);
        }
    }
}
