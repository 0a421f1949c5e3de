/** Counts the wrong answers of one test program, and ends it with exit code 1 if there are any. */
final class Check {
    private static int checked = 0;
    private static int wrong = 0;
    private static int sentences = 0;
    private static volatile String where = "";

    /** No test takes more than some seconds. */
    private static final long MOST_MILLISECONDS = 300_000;

    static {
        Thread watch = new Thread(Check::endIfTooLong);
        watch.setDaemon(true);
        watch.start();
    }

    private Check() {
    }

    /** No call may fail to end: the test then fails too, in place of running on for ever. */
    private static void endIfTooLong() {
        try {
            Thread.sleep(MOST_MILLISECONDS);
        } catch (InterruptedException interrupted) {
            return;
        }
        System.out.println(where + "not ended after " + MOST_MILLISECONDS + " milliseconds");
        Runtime.getRuntime().halt(1);
    }

    /** The test of one sentence of the document: what it finds wrong is told under that sentence. */
    static void sentence(String sentence, Runnable test) {
        int checkedBefore = checked;
        where = sentence + ": ";
        try {
            test.run();
        } catch (RuntimeException thrown) {
            // No call may throw, and the tests of the other sentences are still of interest.
            isTrue("nothing is thrown, but " + thrown, false);
        }
        isTrue("the sentence is tested", checked > checkedBefore);
        sentences++;
        where = "";
    }

    static void due(String what, long got, long want) {
        checked++;
        if (got != want) {
            wrong++;
            System.out.println(where + what + " answered " + got + ", due is " + want);
        }
    }

    static void isTrue(String what, boolean truth) {
        checked++;
        if (!truth) {
            wrong++;
            System.out.println(where + "not so: " + what);
        }
    }

    static void end() {
        String tested = sentences > 0 ? sentences + " sentences, " : "";
        System.out.println(tested + checked + " checks, " + wrong + " wrong");
        if (wrong != 0) {
            System.exit(1);
        }
    }
}
