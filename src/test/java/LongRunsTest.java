/** Promises 1 to 13 together: runs of 512 calls, each answer compared with a plain model's. */
public final class LongRunsTest {
    private static final int RUNS = 3000;
    private static final int CALLS = 512;
    private static final int[] EDGES = {-1, -2, 120, 121, Integer.MAX_VALUE, Integer.MAX_VALUE - 1, Integer.MIN_VALUE};

    private static long state = 20261115L;

    public static void main(String[] args) {
        Due.test("Promises 1 to 13 together, over runs of 512 calls", LongRunsTest::allRuns);
        Due.end();
    }

    private static void allRuns() {
        for (int run = 0; run < RUNS; run++) {
            oneRun(run);
        }
    }

    private static void oneRun(int run) {
        LzwSearcher x = new LzwSearcher();
        PlainModel model = new PlainModel("", "");
        // Few different letters make patterns that occur often.
        int letters = 1 + run % 4;
        for (int call = 0; call < CALLS; call += 2) {
            change(x, model, letters, run);
            ask(x, model, letters, run);
        }
    }

    private static void change(LzwSearcher x, PlainModel model, int letters, int run) {
        int kind = below(32);
        int letter = below(20) == 0 ? edge() : below(letters);
        if (kind == 0) {
            x.clear();
            model.clear();
        } else if (kind <= 2) {
            x.clearPattern();
            model.clearPattern();
        } else if (kind <= 5) {
            int from = below(20) == 0 ? edge() : below(model.length() + 1);
            int n = below(20) == 0 ? edge() : below(30);
            same(run, "repeat(" + from + ", " + n + ")", x.repeat(from, n), model.repeat(from, n));
        } else if (kind <= 12) {
            same(run, "pattern(" + letter + ")", x.pattern(letter), model.pattern(letter));
        } else {
            same(run, "append(" + letter + ")", x.append(letter), model.append(letter));
        }
    }

    private static void ask(LzwSearcher x, PlainModel model, int letters, int run) {
        int n = below(20) == 0 ? edge() : below(model.length() + 2);
        int letter = below(20) == 0 ? edge() : below(letters);
        switch (below(7)) {
            case 0 -> same(run, "length()", x.length(), model.length());
            case 1 -> same(run, "letterAt(" + n + ")", x.letterAt(n), model.letterAt(n));
            case 2 -> same(run, "count()", x.count(), model.count());
            case 3 -> {
                int number = below(4) == 0 ? n : below(model.count() + 1);
                same(run, "position(" + number + ")", x.position(number), model.position(number));
            }
            case 4 -> {
                String call = "frequency(" + letter + ", " + n + ")";
                same(run, call, x.frequency(letter, n), model.frequency(letter, n));
            }
            case 5 -> same(run, "overlap()", x.overlap(), model.overlap());
            default -> same(run, "countWithin(" + n + ")", x.countWithin(n), model.countWithin(n));
        }
    }

    private static void same(int run, String call, int got, int want) {
        Due.same("run " + run + ": " + call, got, want);
    }

    private static int edge() {
        return EDGES[below(EDGES.length)];
    }

    /** A fixed sequence, so that each run of the test makes the same calls. */
    private static int below(int bound) {
        state = state * 6364136223846793005L + 1442695040888963407L;
        return (int) ((state >>> 33) % bound);
    }
}
