/** Promise 4: clear. */
public final class ClearTest {
    public static void main(String[] args) {
        Due.test("clear: Empties the text.", ClearTest::emptiesTheText);
        Due.test("clear: Empties the text, an empty one too", ClearTest::emptyText);
        Due.test("clear: Empties a full text, which can be filled again", ClearTest::filledAgain);
        Due.test("clear: The pattern stays.", ClearTest::patternStays);
        Due.end();
    }

    private static void emptiesTheText() {
        for (String text : Searchers.TEXTS) {
            LzwSearcher x = Searchers.with(text, "01");
            x.clear();
            Due.same("cleared: length()", x.length(), 0);
            for (int index = 0; index < 120; index++) {
                Due.same("cleared: letterAt(" + index + ")", x.letterAt(index), LzwSearcher.NONE);
            }
            Due.same("cleared: count()", x.count(), 0);
            Due.same("cleared: position(0)", x.position(0), LzwSearcher.NONE);
            Due.same("cleared: overlap()", x.overlap(), 0);
            Due.same("cleared: countWithin(120)", x.countWithin(120), 0);
            for (int letter = 0; letter < 4; letter++) {
                Due.same("cleared: frequency(" + letter + ", 120)", x.frequency(letter, 120), 0);
            }
            Due.same("cleared: repeat(0, 1)", x.repeat(0, 1), LzwSearcher.BAD_PLACE);
        }
    }

    private static void emptyText() {
        for (String pattern : Searchers.PATTERNS) {
            LzwSearcher x = Searchers.with("", pattern);
            x.clear();
            x.clear();
            State.due("cleared twice", x, "", pattern);
        }
    }

    private static void filledAgain() {
        String[] texts = {"0101010101", "1", "3210321032", Searchers.mixed(120), "0".repeat(120), "01"};
        for (String old : texts) {
            for (String text : texts) {
                LzwSearcher x = Searchers.with(old, "");
                x.clear();
                Due.same("first append after clear", x.append(text.charAt(0) - '0'), 1);
                Searchers.addText(x, text.substring(1));
                Due.same("the text after clear", Searchers.textOf(x), text);
            }
        }
    }

    private static void patternStays() {
        for (String text : Searchers.TEXTS) {
            for (String pattern : Searchers.PATTERNS) {
                LzwSearcher x = Searchers.with(text, pattern);
                x.clear();
                State.due("cleared", x, "", pattern);
            }
        }
        LzwSearcher x = Searchers.with("2222", "012");
        x.clear();
        Searchers.addText(x, "30120");
        Due.same("30120: position(0)", x.position(0), 1);
        Due.same("30120: pattern(0) after three letters", x.pattern(0), 4);
    }
}
