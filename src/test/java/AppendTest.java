/** Promise 2: append. */
public final class AppendTest {
    public static void main(String[] args) {
        answersTheLength();
        everyShortText();
        wrongLetters();
        fullText();
        Due.end();
    }

    private static void answersTheLength() {
        String text = Searchers.mixed(120);
        LzwSearcher x = new LzwSearcher();
        for (int i = 0; i < 120; i++) {
            Due.same("append number " + i, x.append(text.charAt(i) - '0'), i + 1);
            // Read from another object, as one object is used for 512 calls at most.
            String start = text.substring(0, i + 1);
            Due.same("the text after it", Searchers.textOf(Searchers.with(start, "")), start);
        }
        Due.same("the text after all", Searchers.textOf(x), text);
    }

    /** All texts of seven letters, so that phrases of every small shape are met. */
    private static void everyShortText() {
        for (int number = 0; number < 1 << 14; number++) {
            StringBuilder text = new StringBuilder();
            for (int i = 0; i < 7; i++) {
                text.append(number >> 2 * i & 3);
            }
            LzwSearcher x = Searchers.with(text.toString(), "");
            Due.same("the text after appending " + text, Searchers.textOf(x), text.toString());
        }
    }

    private static void wrongLetters() {
        for (int letter : Searchers.NOT_LETTERS) {
            LzwSearcher x = new LzwSearcher();
            Due.same("empty: append(" + letter + ")", x.append(letter), LzwSearcher.BAD_LETTER);
            Due.same("length() after it", x.length(), 0);
            Searchers.addText(x, "3120");
            Due.same("3120: append(" + letter + ")", x.append(letter), LzwSearcher.BAD_LETTER);
            Due.same("the text after it", Searchers.textOf(x), "3120");
        }
    }

    private static void fullText() {
        String text = Searchers.mixed(120);
        LzwSearcher x = Searchers.with(text, "");
        for (int letter = 0; letter < 4; letter++) {
            Due.same("full: append(" + letter + ")", x.append(letter), LzwSearcher.FULL);
        }
        // The document names the bad letter first, so it is told even when the text is full.
        Due.same("full: append(4)", x.append(4), LzwSearcher.BAD_LETTER);
        Due.same("full: append(-1)", x.append(-1), LzwSearcher.BAD_LETTER);
        Due.same("the full text", Searchers.textOf(x), text);
    }
}
