/** Promise 13: countWithin. */
public final class CountWithinTest {
    public static void main(String[] args) {
        Due.test("countWithin: How many times the pattern occurs that ends within the text's first n letters",
            CountWithinTest::everyPrefix);
        Due.test("countWithin: n of 0, or less than the pattern's length", CountWithinTest::fewLetters);
        Due.test("countWithin: n adjusted as above: below 0 as 0", CountWithinTest::belowZero);
        Due.test("countWithin: n adjusted as above: above the length as the length", CountWithinTest::aboveTheLength);
        Due.test("countWithin: with an empty pattern", CountWithinTest::emptyPattern);
        Due.test("countWithin: in an empty text", CountWithinTest::emptyText);
        Due.test("countWithin: with a pattern longer than the text", CountWithinTest::longPattern);
        Due.test("countWithin: in a full text", CountWithinTest::fullText);
        Due.end();
    }

    private static void everyPrefix() {
        due("0123", "0", 0, 1, 1, 1, 1);
        due("0123", "3", 0, 0, 0, 0, 1);
        due("0123", "0123", 0, 0, 0, 0, 1);
        due("01230123", "23", 0, 0, 0, 0, 1, 1, 1, 1, 2);
        due("0000000", "000", 0, 0, 0, 1, 2, 3, 4, 5);
        due("0101013", "010", 0, 0, 0, 1, 1, 2, 2, 2);
    }

    private static void fewLetters() {
        for (int length = 1; length <= 10; length++) {
            LzwSearcher x = Searchers.with("0".repeat(20), "0".repeat(length));
            for (int n = 0; n < length; n++) {
                Due.same(length + " times 0: countWithin(" + n + ")", x.countWithin(n), 0);
            }
            Due.same(length + " times 0: countWithin(" + length + ")", x.countWithin(length), 1);
        }
    }

    private static void belowZero() {
        same("0000", "0", 0, Searchers.BELOW_ZERO);
        same("0".repeat(120), "0", 0, Searchers.BELOW_ZERO);
        same("0".repeat(120), "0000000000", 0, Searchers.BELOW_ZERO);
        same("0123", "0123012301", 0, Searchers.BELOW_ZERO);
    }

    private static void aboveTheLength() {
        for (int length = 1; length <= 120; length++) {
            same("0".repeat(length), "0", length, length, length + 1, length + 2);
            same("0".repeat(length), "000", Math.max(0, length - 2), length, length + 1, length + 2);
        }
        same("0000", "0", 4, Searchers.ABOVE_120);
        same("01230123", "23", 2, Searchers.ABOVE_120);
        same("0".repeat(120), "0000000000", 111, Searchers.ABOVE_120);
    }

    private static void emptyPattern() {
        for (String text : Searchers.TEXTS) {
            same(text, "", 0, -1, 0, 1, text.length() - 1, text.length(), text.length() + 1, 120);
            same(text, "", 0, Searchers.ABOVE_120);
        }
    }

    private static void emptyText() {
        for (String pattern : Searchers.PATTERNS) {
            same("", pattern, 0, -1, 0, 1, 10, 120, 121, Integer.MAX_VALUE, Integer.MIN_VALUE);
        }
    }

    private static void longPattern() {
        for (int length = 1; length < 10; length++) {
            same("0".repeat(length), "0".repeat(length + 1), 0, -1, 0, 1, length, length + 1, 120);
        }
        same("0123", "01230", 0, 0, 3, 4, 5, 6);
    }

    private static void fullText() {
        LzwSearcher x = Searchers.with("2".repeat(120), "2".repeat(10));
        for (int n = 0; n <= 120; n++) {
            Due.same("120 times 2: countWithin(" + n + ")", x.countWithin(n), Math.max(0, n - 9));
        }
        same("0".repeat(119) + "1", "1", 0, 0, 1, 118, 119);
        same("0".repeat(119) + "1", "1", 1, 120, 121);
    }

    /** The numbers due are those for n = 0, 1, .. up to the text's length. */
    private static void due(String text, String pattern, int... want) {
        for (int n = 0; n < want.length; n++) {
            same(text, pattern, want[n], n);
        }
    }

    private static void same(String text, String pattern, int want, int... numbers) {
        LzwSearcher x = Searchers.with(text, pattern);
        for (int n : numbers) {
            Due.same("text " + text + ", pattern " + pattern + ": countWithin(" + n + ")", x.countWithin(n), want);
        }
    }
}
