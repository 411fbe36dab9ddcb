/** Promise 6: clearPattern. */
public final class ClearPatternTest {
    public static void main(String[] args) {
        Due.test("clearPattern: Empties the pattern.", ClearPatternTest::emptiesThePattern);
        Due.test("clearPattern: Empties the pattern, an empty one too", ClearPatternTest::emptyPattern);
        Due.test("clearPattern: Empties a pattern of ten, which can be filled again", ClearPatternTest::filledAgain);
        Due.test("clearPattern: the text stays", ClearPatternTest::textStays);
        Due.end();
    }

    private static void emptiesThePattern() {
        for (String pattern : new String[] {"0", "00", "000000000", "0000000000"}) {
            LzwSearcher x = Searchers.with("0".repeat(20), pattern);
            x.clearPattern();
            Due.same("no pattern: count()", x.count(), 0);
            Due.same("no pattern: position(0)", x.position(0), LzwSearcher.NONE);
            Due.same("no pattern: overlap()", x.overlap(), 0);
            Due.same("no pattern: countWithin(20)", x.countWithin(20), 0);
            Due.same("no pattern: pattern(0)", x.pattern(0), 1);
            Due.same("pattern 0: count()", x.count(), 20);
        }
    }

    private static void emptyPattern() {
        for (String text : Searchers.TEXTS) {
            LzwSearcher x = Searchers.with(text, "");
            x.clearPattern();
            x.clearPattern();
            State.due("emptied twice", x, text, "");
        }
    }

    private static void filledAgain() {
        for (String text : Searchers.TEXTS) {
            LzwSearcher x = Searchers.with(text, "0123012301");
            x.clearPattern();
            for (int i = 0; i < 10; i++) {
                Due.same("pattern letter " + i + " after clearPattern", x.pattern(3 - i % 3), i + 1);
            }
            Due.same("pattern(3) after ten", x.pattern(3), LzwSearcher.FULL);
            State.due("filled again", x, text, "3213213213");
        }
    }

    private static void textStays() {
        for (String text : Searchers.TEXTS) {
            for (String pattern : Searchers.PATTERNS) {
                LzwSearcher x = Searchers.with(text, pattern);
                x.clearPattern();
                State.due("pattern emptied", x, text, "");
            }
        }
    }
}
