/** Counts what a test looked at, and tells what was not as due. */
final class Check {
    interface Call {
        void run();
    }

    private static int passed = 0;
    private static int failed = 0;

    private Check() {
    }

    static void same(String what, double got, double due) {
        if (got == due) {
            passed++;
        } else {
            failed++;
            System.out.println(what + " answered " + got + ", due is " + due);
        }
    }

    /** The call must throw exactly this class: a subclass would be the Java machine's own exception. */
    static void refused(String what, Class<? extends RuntimeException> due, Call call) {
        try {
            call.run();
        } catch (RuntimeException e) {
            if (e.getClass() == due) {
                passed++;
            } else {
                failed++;
                System.out.println(what + " threw " + e + ", due is " + due.getName());
            }
            return;
        }
        failed++;
        System.out.println(what + " threw nothing, due is " + due.getName());
    }

    static void finish() {
        System.out.println(passed + " passed, " + failed + " failed");
        if (failed > 0 || passed == 0) {
            System.exit(1);
        }
    }
}
