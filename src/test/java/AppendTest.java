/** Promise 2: append. */
public final class AppendTest {
    public static void main(String[] args) {
        Due.test("append: Appends a letter to the text.", AppendTest::appendsALetter);
        Due.test("append: letter not in 0 to 3: BAD_LETTER", AppendTest::badLetter);
        Due.test("append: BAD_LETTER: nothing changes then", AppendTest::badLetterChangesNothing);
        Due.test("append: the text has 120: FULL", AppendTest::full);
        Due.test("append: FULL: nothing changes then", AppendTest::fullChangesNothing);
        Due.test("append: BAD_LETTER is named before FULL", AppendTest::badLetterWhenFull);
        Due.test("append: Else answers the text's length.", AppendTest::answersTheLength);
        Due.end();
    }

    /** All texts of seven letters, so that phrases of every small shape are met; and long ones. */
    private static void appendsALetter() {
        for (int number = 0; number < 1 << 14; number++) {
            StringBuilder text = new StringBuilder();
            for (int i = 0; i < 7; i++) {
                text.append(number >> 2 * i & 3);
            }
            appended(text.toString());
        }
        for (int length = 0; length <= 120; length++) {
            appended(Searchers.mixed(length));
            appended("0".repeat(length));
        }
    }

    private static void appended(String text) {
        LzwSearcher x = Searchers.with(text, "");
        Due.same("the text after appending " + text, Searchers.textOf(x), text);
    }

    private static void badLetter() {
        for (String text : new String[] {"", "0", "3120", Searchers.mixed(119)}) {
            LzwSearcher x = Searchers.with(text, "");
            for (int letter : Searchers.NOT_LETTERS) {
                Due.same(text + ": append(" + letter + ")", x.append(letter), LzwSearcher.BAD_LETTER);
            }
            for (int letter = 0; letter < 4; letter++) {
                LzwSearcher y = Searchers.with(text, "");
                Due.same(text + ": append(" + letter + ")", y.append(letter), text.length() + 1);
            }
        }
    }

    private static void badLetterChangesNothing() {
        for (int letter : Searchers.NOT_LETTERS) {
            State.keptBy("append(" + letter + ")", x -> x.append(letter));
        }
    }

    private static void full() {
        for (int letter = 0; letter < 4; letter++) {
            LzwSearcher x = Searchers.with(Searchers.mixed(119), "");
            Due.same("119 letters: append(" + letter + ")", x.append(letter), 120);
            Due.same("120 letters: append(" + letter + ")", x.append(letter), LzwSearcher.FULL);
            LzwSearcher y = Searchers.with("0", "");
            y.repeat(0, 118);
            Due.same("119 letters, repeated: append(" + letter + ")", y.append(letter), 120);
            Due.same("120 letters, repeated: append(" + letter + ")", y.append(letter), LzwSearcher.FULL);
        }
        LzwSearcher x = Searchers.with("3".repeat(120), "");
        Due.same("full: append(3)", x.append(3), LzwSearcher.FULL);
        x.clear();
        Due.same("full, then cleared: append(3)", x.append(3), 1);
    }

    private static void fullChangesNothing() {
        for (int letter = 0; letter < 4; letter++) {
            int appended = letter;
            State.keptBy("append(" + letter + ")", x -> x.append(appended), Searchers.mixed(120));
            State.keptBy("append(" + letter + ")", x -> x.append(appended), "2".repeat(120));
        }
    }

    private static void badLetterWhenFull() {
        LzwSearcher x = Searchers.with(Searchers.mixed(120), "");
        for (int letter : Searchers.NOT_LETTERS) {
            Due.same("full: append(" + letter + ")", x.append(letter), LzwSearcher.BAD_LETTER);
        }
    }

    private static void answersTheLength() {
        for (String text : new String[] {Searchers.mixed(120), "1".repeat(120), "0123".repeat(30)}) {
            LzwSearcher x = new LzwSearcher();
            for (int i = 0; i < 120; i++) {
                Due.same("append number " + i + " of " + text, x.append(text.charAt(i) - '0'), i + 1);
            }
        }
    }
}
