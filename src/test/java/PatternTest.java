/** Promise 5: pattern. */
public final class PatternTest {
    public static void main(String[] args) {
        Due.test("pattern: Appends a letter to the pattern.", PatternTest::appendsALetter);
        Due.test("pattern: letter not in 0 to 3: BAD_LETTER", PatternTest::badLetter);
        Due.test("pattern: BAD_LETTER: nothing changes then", PatternTest::badLetterChangesNothing);
        Due.test("pattern: the pattern has ten: FULL", PatternTest::full);
        Due.test("pattern: FULL: nothing changes then", PatternTest::fullChangesNothing);
        Due.test("pattern: BAD_LETTER is named before FULL", PatternTest::badLetterWhenFull);
        Due.test("pattern: Else answers the pattern's length.", PatternTest::answersTheLength);
        Due.end();
    }

    private static void appendsALetter() {
        String letters = "0123012301";
        LzwSearcher x = Searchers.with("3" + letters, "");
        for (int i = 0; i < 10; i++) {
            x.pattern(letters.charAt(i) - '0');
            Due.same("position(0) after letter " + i, x.position(0), 1);
            Due.same("countWithin(" + (i + 1) + ") after letter " + i, x.countWithin(i + 1), 0);
        }
        for (String text : Searchers.TEXTS) {
            State.due("made", Searchers.with(text, "3102331202"), text, "3102331202");
        }
    }

    private static void badLetter() {
        for (String pattern : new String[] {"", "3", "012301230"}) {
            LzwSearcher x = Searchers.with("0120", pattern);
            for (int letter : Searchers.NOT_LETTERS) {
                Due.same(pattern + ": pattern(" + letter + ")", x.pattern(letter), LzwSearcher.BAD_LETTER);
            }
            for (int letter = 0; letter < 4; letter++) {
                LzwSearcher y = Searchers.with("0120", pattern);
                Due.same(pattern + ": pattern(" + letter + ")", y.pattern(letter), pattern.length() + 1);
            }
        }
    }

    private static void badLetterChangesNothing() {
        for (int letter : Searchers.NOT_LETTERS) {
            State.keptBy("pattern(" + letter + ")", x -> x.pattern(letter));
        }
    }

    private static void full() {
        for (String text : Searchers.TEXTS) {
            for (int letter = 0; letter < 4; letter++) {
                LzwSearcher x = Searchers.with(text, "012301230");
                Due.same("nine: pattern(" + letter + ")", x.pattern(letter), 10);
                Due.same("ten: pattern(" + letter + ")", x.pattern(letter), LzwSearcher.FULL);
                Due.same("ten: pattern(0)", x.pattern(0), LzwSearcher.FULL);
            }
        }
        LzwSearcher x = Searchers.with("", "0000000000");
        x.clearPattern();
        Due.same("ten, then emptied: pattern(0)", x.pattern(0), 1);
    }

    private static void fullChangesNothing() {
        for (String text : Searchers.TEXTS) {
            for (int letter = 0; letter < 4; letter++) {
                LzwSearcher x = Searchers.with(text, "0123012301");
                x.pattern(letter);
                State.due("after pattern(" + letter + ")", x, text, "0123012301");
            }
        }
    }

    private static void badLetterWhenFull() {
        LzwSearcher x = Searchers.with("0", "0123012301");
        for (int letter : Searchers.NOT_LETTERS) {
            Due.same("ten: pattern(" + letter + ")", x.pattern(letter), LzwSearcher.BAD_LETTER);
        }
    }

    private static void answersTheLength() {
        for (String text : Searchers.TEXTS) {
            for (String letters : new String[] {"0123012301", "3333333333"}) {
                LzwSearcher x = Searchers.with(text, "");
                for (int i = 0; i < 10; i++) {
                    Due.same("pattern letter " + i, x.pattern(letters.charAt(i) - '0'), i + 1);
                }
            }
        }
    }
}
