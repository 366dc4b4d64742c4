/** Counts the answers that are not as due, and ends the program with 1 if there was one. */
final class Checks {
    // A test program takes a few seconds; this is only for a call that never ends.
    private static final long LONGEST_RUN_MILLIS = 120_000;

    // A class that is broken throughout would print a line for each of a million checks.
    private static final int PRINTED_PER_TEST = 20;

    private static int made = 0;
    private static int wrong = 0;
    private static int wrongBefore = 0;
    private static volatile String running = "";

    static {
        Thread watch = new Thread(Checks::giveUp);
        watch.setDaemon(true);
        watch.start();
    }

    private Checks() {
    }

    private static void giveUp() {
        try {
            Thread.sleep(LONGEST_RUN_MILLIS);
        } catch (InterruptedException e) {
            return;
        }
        System.out.println("a call does not end: " + running);
        Runtime.getRuntime().halt(1);
    }

    /** Runs one test; one that throws, or that looks at nothing, is wrong, and the next goes on. */
    static void test(String name, Runnable body) {
        running = name;
        int madeBefore = made;
        wrongBefore = wrong;
        try {
            body.run();
        } catch (Throwable thrown) {
            wrong++;
            System.out.println("threw " + thrown);
        }
        if (made == madeBefore) {
            wrong++;
            System.out.println("checked nothing");
        }
        if (wrong != wrongBefore) {
            System.out.println("  " + (wrong - wrongBefore) + " wrong in the test: " + name);
        }
    }

    static void due(String call, int got, int want) {
        made++;
        if (got != want) {
            wrong++;
            if (wrong - wrongBefore <= PRINTED_PER_TEST) {
                System.out.println(call + " answered " + got + ", due is " + want);
            }
        }
    }

    static void due(String call, boolean got, boolean want) {
        due(call, got ? 1 : 0, want ? 1 : 0);
    }

    static void end() {
        System.out.println(made + " checks, " + wrong + " wrong");
        if (wrong != 0 || made == 0) {
            System.exit(1);
        }
    }
}
