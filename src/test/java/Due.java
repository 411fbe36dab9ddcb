/** Runs tests, compares answers with what is due, and ends with exit code 1 if one differed. */
final class Due {
    // A broken class may give thousands of wrong answers, and the first few tell enough.
    private static final int TOLD_PER_TEST = 5;

    private static int wrong = 0;
    private static int wrongInTest = 0;

    private Due() {
    }

    /** One test, named by the words of the document that it holds the class to. */
    static void test(String words, Runnable test) {
        wrongInTest = 0;
        try {
            test.run();
        } catch (RuntimeException thrown) {
            tell("a call", thrown.toString(), "no exception");
        }
        System.out.println((wrongInTest == 0 ? "  holds: " : "  BROKEN: ") + words);
    }

    static void same(String call, long got, long want) {
        if (got != want) {
            tell(call, Long.toString(got), Long.toString(want));
        }
    }

    static void same(String call, String got, String want) {
        if (!got.equals(want)) {
            tell(call, got, want);
        }
    }

    static void end() {
        if (wrong != 0) {
            System.out.println(wrong + " answers are not as due");
            System.exit(1);
        }
    }

    private static void tell(String call, String got, String want) {
        wrong++;
        wrongInTest++;
        if (wrongInTest <= TOLD_PER_TEST) {
            System.out.println(call + " answered " + got + ", due is " + want);
        }
    }
}
