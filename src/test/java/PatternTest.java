/** Promise 5: pattern. */
public final class PatternTest {
    public static void main(String[] args) {
        answersTheLength();
        wrongLetters();
        fullPattern();
        textStays();
        Due.end();
    }

    private static void answersTheLength() {
        String text = "0123012301";
        LzwSearcher x = Searchers.with("3" + text, "");
        for (int i = 0; i < 10; i++) {
            Due.same("pattern letter " + i, x.pattern(text.charAt(i) - '0'), i + 1);
            Due.same("position(0) after it", x.position(0), 1);
            Due.same("countWithin(" + (i + 1) + ") after it", x.countWithin(i + 1), 0);
        }
    }

    private static void wrongLetters() {
        for (int letter : Searchers.NOT_LETTERS) {
            LzwSearcher x = Searchers.with("0120", "");
            Due.same("empty: pattern(" + letter + ")", x.pattern(letter), LzwSearcher.BAD_LETTER);
            Due.same("count() after it", x.count(), 0);
            Due.same("pattern(1) after it", x.pattern(1), 1);
            Due.same("1: pattern(" + letter + ")", x.pattern(letter), LzwSearcher.BAD_LETTER);
            Due.same("position(0) after it", x.position(0), 1);
            Due.same("pattern(2) after it", x.pattern(2), 2);
        }
    }

    private static void fullPattern() {
        LzwSearcher x = Searchers.with("01230123012", "0123012301");
        for (int letter = 0; letter < 4; letter++) {
            Due.same("ten: pattern(" + letter + ")", x.pattern(letter), LzwSearcher.FULL);
        }
        // The document names the bad letter first, so it is told even when the pattern has ten.
        Due.same("ten: pattern(4)", x.pattern(4), LzwSearcher.BAD_LETTER);
        Due.same("ten: pattern(-1)", x.pattern(-1), LzwSearcher.BAD_LETTER);
        Due.same("ten: positions", Searchers.positionsOf(x), "0");
    }

    private static void textStays() {
        LzwSearcher x = Searchers.with("0123", "3210");
        Due.same("the text after four pattern letters", Searchers.textOf(x), "0123");
    }
}
