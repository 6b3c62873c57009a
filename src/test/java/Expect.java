import java.lang.reflect.InvocationTargetException;
import java.lang.reflect.Method;
import java.lang.reflect.Modifier;
import java.util.Arrays;
import java.util.Comparator;
import java.util.List;

/** Counts and prints what a test finds wrong; a test ends with done(). */
final class Expect {
    /** A call whose answer or exception is looked at. */
    interface Call {
        long run();
    }

    static final Class<? extends RuntimeException> INDEX = IndexOutOfBoundsException.class;
    static final Class<? extends RuntimeException> ARGUMENT = IllegalArgumentException.class;
    static final Class<? extends RuntimeException> STATE = IllegalStateException.class;

    private static int checked = 0;
    private static int wrong = 0;
    /** The test that is running, when all() runs it; it stands in front of what is wrong. */
    private static String running = "";

    private Expect() {
    }

    /** Runs the tests of a class: all that it holds without parameters and without an answer, by name. */
    static void all(Class<?> tests) {
        Method[] methods = tests.getDeclaredMethods();
        Arrays.sort(methods, Comparator.comparing(Method::getName));
        int count = 0;
        for (Method method : methods) {
            boolean isTest = method.getParameterCount() == 0 && method.getReturnType() == void.class
                    && Modifier.isStatic(method.getModifiers()) && !method.isSynthetic();
            if (isTest) {
                runTest(method);
                count++;
            }
        }
        isTrue(tests.getName() + " holds tests", count > 0);
        System.out.println(tests.getName() + ": " + count + " tests");
    }

    private static void runTest(Method method) {
        running = method.getName() + ": ";
        int before = checked;
        try {
            method.setAccessible(true);
            method.invoke(null);
        } catch (InvocationTargetException e) {
            fail("threw " + e.getCause());
        } catch (IllegalAccessException e) {
            fail("cannot be run");
        }
        isTrue("looks at nothing", checked > before);
        running = "";
    }

    static void same(String what, long got, long due) {
        checked++;
        if (got != due) {
            fail(what + " answered " + got + ", due is " + due);
        }
    }

    static void row(String what, int[] got, int... due) {
        checked++;
        if (!Arrays.equals(got, due)) {
            fail(what + " answered " + Arrays.toString(got) + ", due is " + Arrays.toString(due));
        }
    }

    static void raises(String what, Class<? extends RuntimeException> due, Call call) {
        checked++;
        String got;
        try {
            got = "answered " + call.run();
        } catch (RuntimeException e) {
            if (e.getClass() == due) {
                return;
            }
            got = "threw " + e;
        }
        fail(what + " " + got + ", due is " + due.getSimpleName());
    }

    /** The call throws, and the tour is as it was: no state more on the undo stack, no value changed. */
    static void refuses(String what, Class<? extends RuntimeException> due, CrateTour tour, Call call) {
        long before = tour.digest();
        raises(what, due, call);
        same(what + ": digest behind it", tour.digest(), before);
    }

    /** The call answers what is due and changes nothing, the undo stack neither. */
    static void tells(String what, CrateTour tour, Call call, long due) {
        long before = tour.digest();
        same(what, call.run(), due);
        same(what + ": digest behind it", tour.digest(), before);
    }

    /**
     * The call, made while the command text is empty, saves one state, and undo() brings that back. It is
     * made again then, so that it has been made in the end.
     */
    static void undoable(String what, CrateTour tour, Call call) {
        int saved = Scenes.saved(tour, 0);
        isTrue(what + ": the digest in front of it is as due", saved >= 0);
        List<Integer> before = Scenes.view(tour);
        call.run();
        int more = Math.min(4, saved + 1);
        same(what + ": states saved behind it", Scenes.saved(tour, 0), more);
        same(what + ": undo()", tour.undo(), more - 1);
        isTrue(what + ": undo() brings back what was", before.equals(Scenes.view(tour)));
        call.run();
    }

    static void isTrue(String what, boolean holds) {
        checked++;
        if (!holds) {
            fail(what);
        }
    }

    static void fail(String text) {
        wrong++;
        if (wrong <= 50) {
            System.out.println("wrong: " + running + text);
        }
    }

    static int wrong() {
        return wrong;
    }

    static void done(String name) {
        System.out.println(name + ": " + checked + " checks, " + wrong + " wrong");
        if (wrong > 0) {
            System.exit(1);
        }
    }
}
