import java.lang.reflect.InvocationTargetException;
import java.lang.reflect.Method;
import java.lang.reflect.Modifier;
import java.util.Set;
import java.util.TreeSet;

/** Counts what a test looked at, and tells what was not as due. */
final class Check {
    interface Call {
        void run();
    }

    private static final long LONGEST_MILLISECONDS = 300_000;

    private static int passed = 0;
    private static int failed = 0;
    /** The name of the test that runs, with a blank behind it; empty where the tests have no names. */
    private static volatile String test = "";

    static {
        // A class under test that does not end is a failure, too: it must not let the whole run hang.
        Thread watch = new Thread(Check::stopHanging);
        watch.setDaemon(true);
        watch.start();
    }

    private Check() {
    }

    private static void stopHanging() {
        try {
            Thread.sleep(LONGEST_MILLISECONDS);
        } catch (InterruptedException e) {
            return;
        }
        System.out.println(test + "did not end in time");
        System.out.flush();
        Runtime.getRuntime().halt(1);
    }

    static void same(String what, double got, double due) {
        if (got == due) {
            passed++;
        } else {
            fail(what + " answered " + got + ", due is " + due);
        }
    }

    static void text(String what, String got, String due) {
        if (got.equals(due)) {
            passed++;
        } else {
            fail(what + " is '" + got + "', due is '" + due + "'");
        }
    }

    /** The call must throw exactly this class: a subclass would be the Java machine's own exception. */
    static void refused(String what, Class<? extends RuntimeException> due, Call call) {
        try {
            call.run();
        } catch (RuntimeException e) {
            if (e.getClass() == due) {
                passed++;
            } else {
                fail(what + " threw " + e + ", due is " + due.getName());
            }
            return;
        }
        fail(what + " threw nothing, due is " + due.getName());
    }

    private static void fail(String told) {
        failed++;
        System.out.println(test + told);
    }

    /**
     * Runs the tests of a class: its methods that are named by a promise or a term, as promise2Feed.
     * Answers the numbers that they bear, as promise2.
     */
    static Set<String> runNamed(Class<?> tests) {
        Set<String> numbers = new TreeSet<>();
        for (Method m : tests.getDeclaredMethods()) {
            if (m.getName().matches("(promise|term)[0-9]+[A-Z].*")) {
                numbers.add(m.getName().replaceAll("^([a-z]+[0-9]+).*", "$1"));
                runOne(m);
            }
        }
        return numbers;
    }

    private static void runOne(Method m) {
        test = m.getName() + ": ";
        int before = passed + failed;
        if (!Modifier.isStatic(m.getModifiers()) || m.getParameterCount() > 0) {
            fail("is no static method without parameters");
            return;
        }
        try {
            m.invoke(null);
            if (passed + failed == before) {
                fail("looked at nothing");
            }
        } catch (InvocationTargetException e) {
            fail("ended with " + e.getCause());
        } catch (IllegalAccessException e) {
            fail("could not be called");
        }
        test = "";
    }

    static void finish() {
        System.out.println(passed + " passed, " + failed + " failed");
        if (failed > 0 || passed == 0) {
            System.exit(1);
        }
    }
}
