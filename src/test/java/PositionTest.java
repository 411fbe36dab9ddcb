/** Promise 10: position. */
public final class PositionTest {
    public static void main(String[] args) {
        Due.test("position: The index of occurrence number n, from 0 and from left to right", PositionTest::ordinary);
        Due.test("position: the last index in a full text", PositionTest::fullText);
        Due.test("position: NONE if there is none: n below 0", PositionTest::tooSmall);
        Due.test("position: NONE if there is none: n at the count or above", PositionTest::tooLarge);
        Due.test("position: NONE if there is none: an empty pattern", PositionTest::emptyPattern);
        Due.test("position: NONE if there is none: an empty text", PositionTest::emptyText);
        Due.test("position: NONE if there is none: a pattern longer than the text", PositionTest::longPattern);
        Due.end();
    }

    private static void ordinary() {
        due("0123", "0", 0);
        due("0123", "3", 3);
        due("0123", "0123", 0);
        due("01230123", "23", 2, 6);
        due("0000000", "000", 0, 1, 2, 3, 4);
        due("10101013", "101", 0, 2, 4);
        due("3301033010", "3010", 1, 6);
    }

    private static void fullText() {
        Due.same("120 times 0, 0: position(119)", Searchers.with("0".repeat(120), "0").position(119), 119);
        due("0".repeat(110) + "1230123012", "1230123012", 110);
        due("0".repeat(119) + "1", "1", 119);
    }

    private static void tooSmall() {
        none("0000", "0", Searchers.BELOW_ZERO);
        none("0".repeat(120), "00", Searchers.BELOW_ZERO);
        none("0123", "3", Searchers.BELOW_ZERO);
        none("0123", "33", Searchers.BELOW_ZERO);
    }

    private static void tooLarge() {
        for (int length = 1; length <= 120; length++) {
            none("0".repeat(length), "0", length, length + 1);
        }
        none("01230123", "23", 2, 3, 4, 6, 8, 119, 120);
        none("01230123", "23", Searchers.ABOVE_120);
        none("0".repeat(120), "0", Searchers.ABOVE_120);
        none("0123", "33", 0, 1, 2, 3, 4);
    }

    private static void emptyPattern() {
        for (String text : Searchers.TEXTS) {
            none(text, "", -1, 0, 1, text.length() - 1, text.length(), text.length() + 1);
            none(text, "", Searchers.ABOVE_120);
        }
    }

    private static void emptyText() {
        for (String pattern : Searchers.PATTERNS) {
            none("", pattern, -1, 0, 1, 119, 120, Integer.MAX_VALUE, Integer.MIN_VALUE);
        }
    }

    private static void longPattern() {
        for (int length = 1; length < 10; length++) {
            none("0".repeat(length), "0".repeat(length + 1), -1, 0, 1, length);
        }
    }

    private static void due(String text, String pattern, int... want) {
        LzwSearcher x = Searchers.with(text, pattern);
        for (int n = 0; n < want.length; n++) {
            same(x, text, pattern, n, want[n]);
        }
    }

    private static void none(String text, String pattern, int... numbers) {
        LzwSearcher x = Searchers.with(text, pattern);
        for (int n : numbers) {
            same(x, text, pattern, n, LzwSearcher.NONE);
        }
    }

    private static void same(LzwSearcher x, String text, String pattern, int n, int want) {
        Due.same("text " + text + ", pattern " + pattern + ": position(" + n + ")", x.position(n), want);
    }
}
