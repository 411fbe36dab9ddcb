/** Promise 3: repeat. */
public final class RepeatTest {
    private static final int[] LENGTHS = {1, 2, 3, 60, 119, 120};

    public static void main(String[] args) {
        Due.test("repeat: Appends the n letters of the text that begin at 'from' to its end", RepeatTest::everyStretch);
        Due.test("repeat: the stretch may reach into what is being appended", RepeatTest::intoWhatIsAppended);
        Due.test("repeat: it is enough that from is an index of the text before the call", RepeatTest::lastIndex);
        Due.test("repeat: n of 0", RepeatTest::nothing);
        Due.test("repeat: n below 0 counts as 0.", RepeatTest::belowZero);
        Due.test("repeat: from not in 0 to length - 1: BAD_PLACE", RepeatTest::badPlace);
        Due.test("repeat: an empty text has no place: BAD_PLACE", RepeatTest::emptyText);
        Due.test("repeat: BAD_PLACE: nothing changes then", RepeatTest::badPlaceChangesNothing);
        Due.test("repeat: length and n together above 120: FULL", RepeatTest::full);
        Due.test("repeat: FULL for an n so great that a sum wraps around", RepeatTest::fullWithGreatNumbers);
        Due.test("repeat: FULL: nothing changes then", RepeatTest::fullChangesNothing);
        Due.test("repeat: BAD_PLACE is named before FULL", RepeatTest::badPlaceWhenFull);
        Due.test("repeat: Else answers the text's length.", RepeatTest::answersTheLength);
        Due.end();
    }

    private static void everyStretch() {
        String text = "0012010233";
        for (int from = 0; from < text.length(); from++) {
            for (int n = 0; n <= 110; n++) {
                repeated(text, from, n);
            }
        }
    }

    private static void intoWhatIsAppended() {
        LzwSearcher x = Searchers.with("201", "");
        x.repeat(1, 7);
        Due.same("the text after 201, repeat(1, 7)", Searchers.textOf(x), "2010101010");
        for (int period = 1; period <= 20; period++) {
            repeated(Searchers.mixed(30), 30 - period, period + 1);
            repeated(Searchers.mixed(30), 30 - period, 90);
        }
    }

    private static void lastIndex() {
        for (int length = 1; length <= 120; length++) {
            repeated(Searchers.mixed(length), length - 1, 120 - length);
        }
    }

    private static void repeated(String text, int from, int n) {
        StringBuilder want = new StringBuilder(text);
        for (int i = 0; i < n; i++) {
            want.append(want.charAt(from + i));
        }
        LzwSearcher x = Searchers.with(text, "");
        x.repeat(from, n);
        Due.same("the text after " + text + ", repeat(" + from + ", " + n + ")", Searchers.textOf(x), want.toString());
    }

    private static void nothing() {
        for (int length : LENGTHS) {
            adds0(length, 0);
        }
    }

    private static void belowZero() {
        for (int length : LENGTHS) {
            for (int n : Searchers.BELOW_ZERO) {
                adds0(length, n);
            }
        }
    }

    private static void adds0(int length, int n) {
        String text = Searchers.mixed(length);
        for (int from : new int[] {0, length / 2, length - 1}) {
            LzwSearcher x = Searchers.with(text, "01");
            String call = "repeat(" + from + ", " + n + ")";
            Due.same(text + ": " + call, x.repeat(from, n), length);
            State.due("after " + call, x, text, "01");
        }
    }

    private static void badPlace() {
        for (int length = 1; length <= 120; length++) {
            LzwSearcher x = Searchers.with(Searchers.mixed(length), "");
            String told = length + " letters: repeat";
            for (int n : new int[] {-1, 0, 1}) {
                Due.same(told + "(-1, " + n + ")", x.repeat(-1, n), LzwSearcher.BAD_PLACE);
                Due.same(told + "(length, " + n + ")", x.repeat(length, n), LzwSearcher.BAD_PLACE);
                Due.same(told + "(length + 1, " + n + ")", x.repeat(length + 1, n), LzwSearcher.BAD_PLACE);
            }
            Due.same(told + "(0, 0)", x.repeat(0, 0), length);
            Due.same(told + "(length - 1, 0)", x.repeat(length - 1, 0), length);
        }
        farPlaces(Searchers.with("3120", ""));
        farPlaces(Searchers.with(Searchers.mixed(120), ""));
    }

    private static void emptyText() {
        for (int n : new int[] {-1, 0, 1, 120}) {
            LzwSearcher x = new LzwSearcher();
            Due.same("new: repeat(0, " + n + ")", x.repeat(0, n), LzwSearcher.BAD_PLACE);
            LzwSearcher y = Searchers.with(Searchers.mixed(120), "");
            y.clear();
            Due.same("cleared: repeat(0, " + n + ")", y.repeat(0, n), LzwSearcher.BAD_PLACE);
        }
        farPlaces(new LzwSearcher());
    }

    private static void farPlaces(LzwSearcher x) {
        for (int from : Searchers.BELOW_ZERO) {
            Due.same("repeat(" + from + ", 0)", x.repeat(from, 0), LzwSearcher.BAD_PLACE);
        }
        for (int from : Searchers.ABOVE_120) {
            Due.same("repeat(" + from + ", 0)", x.repeat(from, 0), LzwSearcher.BAD_PLACE);
        }
    }

    private static void badPlaceChangesNothing() {
        for (int n : new int[] {-1, 0, 1, 2, 120, Integer.MAX_VALUE}) {
            for (int from : new int[] {-1, 120, Integer.MIN_VALUE, Integer.MAX_VALUE}) {
                State.keptBy("repeat(" + from + ", " + n + ")", x -> x.repeat(from, n));
            }
            for (String text : Searchers.TEXTS) {
                State.keptBy("repeat(length, " + n + ")", x -> x.repeat(text.length(), n), text);
            }
        }
    }

    private static void full() {
        for (int length = 1; length <= 120; length++) {
            int room = 120 - length;
            for (int from : new int[] {0, length - 1}) {
                LzwSearcher x = Searchers.with(Searchers.mixed(length), "");
                String told = length + " letters: repeat(" + from + ", ";
                Due.same(told + (room + 1) + ")", x.repeat(from, room + 1), LzwSearcher.FULL);
                Due.same(told + (room + 2) + ")", x.repeat(from, room + 2), LzwSearcher.FULL);
                Due.same(told + room + ")", x.repeat(from, room), 120);
                Due.same(told + "1) when full", x.repeat(from, 1), LzwSearcher.FULL);
            }
        }
    }

    private static void fullWithGreatNumbers() {
        for (int length : LENGTHS) {
            LzwSearcher x = Searchers.with(Searchers.mixed(length), "");
            for (int n : Searchers.ABOVE_120) {
                Due.same(length + " letters: repeat(0, " + n + ")", x.repeat(0, n), LzwSearcher.FULL);
                Due.same(length + " letters: repeat(length - 1, " + n + ")", x.repeat(length - 1, n), LzwSearcher.FULL);
            }
            // The least n whose sum with the length is no int any more, and the one before it.
            int wraps = Integer.MAX_VALUE - length + 1;
            Due.same(length + " letters: repeat(0, " + wraps + ")", x.repeat(0, wraps), LzwSearcher.FULL);
            Due.same(length + " letters: repeat(0, " + (wraps - 1) + ")", x.repeat(0, wraps - 1), LzwSearcher.FULL);
        }
    }

    private static void fullChangesNothing() {
        for (String text : Searchers.TEXTS) {
            if (!text.isEmpty()) {
                int tooMany = 121 - text.length();
                State.keptBy("repeat(0, " + tooMany + ")", x -> x.repeat(0, tooMany), text);
                State.keptBy("repeat(length - 1, " + tooMany + ")", x -> x.repeat(text.length() - 1, tooMany), text);
                State.keptBy("repeat(0, 2147483647)", x -> x.repeat(0, Integer.MAX_VALUE), text);
            }
        }
    }

    private static void badPlaceWhenFull() {
        for (String text : Searchers.TEXTS) {
            LzwSearcher x = Searchers.with(text, "");
            for (int from : new int[] {-1, text.length(), Integer.MIN_VALUE, Integer.MAX_VALUE}) {
                for (int n : new int[] {121 - text.length(), 121, Integer.MAX_VALUE}) {
                    Due.same(text + ": repeat(" + from + ", " + n + ")", x.repeat(from, n), LzwSearcher.BAD_PLACE);
                }
            }
        }
    }

    private static void answersTheLength() {
        for (int length = 1; length <= 120; length++) {
            for (int n = 0; n <= 120 - length; n += 7) {
                LzwSearcher x = Searchers.with(Searchers.mixed(length), "");
                Due.same(length + " letters: repeat(0, " + n + ")", x.repeat(0, n), length + n);
            }
        }
    }
}
