/** Compares answers with those that are due, prints the wrong ones and ends the test. */
final class Due {
    private static int wrong = 0;
    private static int looked = 0;
    private static int sentences = 0;
    private static String about = "";

    private Due() {
    }

    /** Runs the test of one sentence of the document; what goes wrong in it is printed under that sentence. */
    static void sentence(String words, Runnable test) {
        about = words + ": ";
        int before = looked;
        try {
            test.run();
        } catch (RuntimeException e) {
            // Caught, so that the tests of the other sentences still run.
            holds("no call throws, but one threw " + e, false);
        }
        holds("the test of this sentence looks at an answer", looked > before);
        sentences++;
        about = "";
    }

    static void is(String what, long got, long want) {
        looked++;
        if (got != want) {
            wrong++;
            System.out.println(about + what + " answered " + got + ", due is " + want);
        }
    }

    static void is(String what, boolean got, boolean want) {
        is(what, got ? 1L : 0L, want ? 1L : 0L);
    }

    static void holds(String what, boolean truth) {
        looked++;
        if (!truth) {
            wrong++;
            System.out.println(about + "does not hold: " + what);
        }
    }

    static boolean anyWrong() {
        return wrong != 0;
    }

    static void end() {
        String tested = sentences == 0 ? "" : sentences + " sentences tested, ";
        System.out.println(tested + looked + " answers looked at, " + wrong + " not as due");
        if (wrong != 0 || looked == 0) {
            System.exit(1);
        }
    }
}
