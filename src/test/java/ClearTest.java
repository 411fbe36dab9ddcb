/** Promise 4: clear empties the text, and the pattern stays. */
public final class ClearTest {
    public static void main(String[] args) {
        emptiesTheText();
        keepsThePattern();
        forgetsTheOldText();
        Due.end();
    }

    private static void emptiesTheText() {
        LzwSearcher x = Searchers.with(Searchers.mixed(120), "01");
        x.clear();
        Due.same("cleared: length()", x.length(), 0);
        Due.same("cleared: letterAt(0)", x.letterAt(0), LzwSearcher.NONE);
        Due.same("cleared: count()", x.count(), 0);
        Due.same("cleared: position(0)", x.position(0), LzwSearcher.NONE);
        Due.same("cleared: overlap()", x.overlap(), 0);
        Due.same("cleared: countWithin(120)", x.countWithin(120), 0);
        Due.same("cleared: frequency(0, 120)", x.frequency(0, 120), 0);
        Due.same("cleared: repeat(0, 1)", x.repeat(0, 1), LzwSearcher.BAD_PLACE);
        x.clear();
        Due.same("cleared twice: length()", x.length(), 0);
    }

    private static void keepsThePattern() {
        LzwSearcher x = Searchers.with("2222", "012");
        x.clear();
        Searchers.addText(x, "30120");
        Due.same("30120: count()", x.count(), 1);
        Due.same("30120: position(0)", x.position(0), 1);
        Due.same("30120: overlap()", x.overlap(), 1);
        Due.same("pattern(3) after three letters", x.pattern(3), 4);
    }

    private static void forgetsTheOldText() {
        String[] texts = {"0101010101", "1", "3210321032", Searchers.mixed(120), "0".repeat(120), "01"};
        for (String old : texts) {
            for (String text : texts) {
                LzwSearcher x = Searchers.with(old, "");
                x.clear();
                Due.same("first append after clear", x.append(text.charAt(0) - '0'), 1);
                Searchers.addText(x, text.substring(1));
                Due.same("the text after clear", Searchers.textOf(x), text);
            }
        }
    }
}
