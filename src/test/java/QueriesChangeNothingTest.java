/** Terms: The calls below change nothing that any call answers. */
public final class QueriesChangeNothingTest {
    private static final int[] NUMBERS = {0, 1, 3, 4, 60, 119, 120, 121, -1, Integer.MAX_VALUE, Integer.MIN_VALUE};

    public static void main(String[] args) {
        Due.test("change nothing that any call answers: length", QueriesChangeNothingTest::length);
        Due.test("change nothing that any call answers: letterAt", QueriesChangeNothingTest::letterAt);
        Due.test("change nothing that any call answers: count", QueriesChangeNothingTest::count);
        Due.test("change nothing that any call answers: position", QueriesChangeNothingTest::position);
        Due.test("change nothing that any call answers: frequency", QueriesChangeNothingTest::frequency);
        Due.test("change nothing that any call answers: overlap", QueriesChangeNothingTest::overlap);
        Due.test("change nothing that any call answers: countWithin", QueriesChangeNothingTest::countWithin);
        Due.end();
    }

    private static void length() {
        State.keptBy("length()", LzwSearcher::length);
    }

    private static void letterAt() {
        for (int n : NUMBERS) {
            State.keptBy("letterAt(" + n + ")", x -> x.letterAt(n));
        }
    }

    private static void count() {
        State.keptBy("count()", LzwSearcher::count);
    }

    private static void position() {
        for (int n : NUMBERS) {
            State.keptBy("position(" + n + ")", x -> x.position(n));
        }
    }

    private static void frequency() {
        for (int n : NUMBERS) {
            State.keptBy("frequency(0, " + n + ")", x -> x.frequency(0, n));
            State.keptBy("frequency(" + n + ", 3)", x -> x.frequency(n, 3));
        }
    }

    private static void overlap() {
        State.keptBy("overlap()", LzwSearcher::overlap);
    }

    private static void countWithin() {
        for (int n : NUMBERS) {
            State.keptBy("countWithin(" + n + ")", x -> x.countWithin(n));
        }
    }
}
