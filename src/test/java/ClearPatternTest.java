/** Promise 6: clearPattern empties the pattern. */
public final class ClearPatternTest {
    public static void main(String[] args) {
        emptiesThePattern();
        keepsTheText();
        afterTenLetters();
        Due.end();
    }

    private static void emptiesThePattern() {
        LzwSearcher x = Searchers.with("0000", "00");
        x.clearPattern();
        Due.same("no pattern: count()", x.count(), 0);
        Due.same("no pattern: position(0)", x.position(0), LzwSearcher.NONE);
        Due.same("no pattern: overlap()", x.overlap(), 0);
        Due.same("no pattern: countWithin(4)", x.countWithin(4), 0);
        x.clearPattern();
        Due.same("no pattern: pattern(0)", x.pattern(0), 1);
        Due.same("pattern 0: count()", x.count(), 4);
    }

    private static void keepsTheText() {
        LzwSearcher x = Searchers.with("01230", "12");
        x.clearPattern();
        Due.same("the text after clearPattern", Searchers.textOf(x), "01230");
    }

    private static void afterTenLetters() {
        LzwSearcher x = Searchers.with("0123", "0123012301");
        x.clearPattern();
        String pattern = "3333333333";
        for (int i = 0; i < 10; i++) {
            Due.same("pattern letter " + i + " after clearPattern", x.pattern(pattern.charAt(i) - '0'), i + 1);
        }
        Due.same("pattern(3) after ten", x.pattern(3), LzwSearcher.FULL);
        Due.same("overlap() after ten", x.overlap(), 1);
    }
}
