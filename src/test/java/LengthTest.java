/** Promise 7: length. */
public final class LengthTest {
    public static void main(String[] args) {
        Due.test("length: of an empty text", LengthTest::empty);
        Due.test("length: The text's length.", LengthTest::everyLength);
        Due.test("length: of a full text", LengthTest::full);
        Due.test("length: after calls that were refused", LengthTest::afterRefusals);
        Due.end();
    }

    private static void empty() {
        LzwSearcher x = new LzwSearcher();
        Due.same("new: length()", x.length(), 0);
        x.pattern(1);
        Due.same("with a pattern: length()", x.length(), 0);
        Searchers.addText(x, Searchers.mixed(120));
        x.clear();
        Due.same("cleared: length()", x.length(), 0);
    }

    private static void everyLength() {
        LzwSearcher x = new LzwSearcher();
        for (int i = 1; i <= 120; i++) {
            x.append(i & 3);
            Due.same("length() after " + i + " letters", x.length(), i);
            LzwSearcher y = Searchers.with("2", "");
            y.repeat(0, i - 1);
            Due.same("length() after 2 and repeat(0, " + (i - 1) + ")", y.length(), i);
        }
    }

    private static void full() {
        LzwSearcher x = Searchers.with("0".repeat(120), "");
        Due.same("full: length()", x.length(), 120);
        x.append(0);
        x.repeat(0, 1);
        Due.same("full, after more: length()", x.length(), 120);
    }

    private static void afterRefusals() {
        LzwSearcher x = Searchers.with("2222", "");
        x.append(-1);
        x.append(4);
        x.repeat(4, 1);
        x.repeat(-1, 1);
        x.repeat(0, 117);
        x.repeat(0, -1);
        x.pattern(4);
        Due.same("2222: length()", x.length(), 4);
    }
}
