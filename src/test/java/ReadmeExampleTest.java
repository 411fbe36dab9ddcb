/** The example in README.md: the same calls, with the answers that it tells. */
public final class ReadmeExampleTest {
    public static void main(String[] args) {
        Due.test("README.md: the example under \"How to use it\"", ReadmeExampleTest::example);
        Due.end();
    }

    private static void example() {
        LzwSearcher x = new LzwSearcher();
        Due.same("append(0)", x.append(0), 1);
        Due.same("append(1)", x.append(1), 2);
        Due.same("repeat(0, 4)", x.repeat(0, 4), 6);
        Due.same("pattern(0)", x.pattern(0), 1);
        Due.same("pattern(1)", x.pattern(1), 2);
        Due.same("count()", x.count(), 3);
        Due.same("position(1)", x.position(1), 2);
        Due.same("countWithin(5)", x.countWithin(5), 2);
        Due.same("overlap()", x.overlap(), 2);
        Due.same("frequency(1, 3)", x.frequency(1, 3), 1);
        Due.same("length()", x.length(), 6);
        Due.same("letterAt(5)", x.letterAt(5), 1);
        Due.same("letterAt(6)", x.letterAt(6), LzwSearcher.NONE);
        x.clear();
        Due.same("count() after clear()", x.count(), 0);
        x.clearPattern();
        Due.same("pattern(3) after clearPattern()", x.pattern(3), 1);
    }
}
