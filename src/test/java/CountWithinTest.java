/** Promise 13: countWithin. */
public final class CountWithinTest {
    public static void main(String[] args) {
        // The numbers due are those for n = 0, 1, .. up to the text's length.
        due("", "", 0);
        due("", "0", 0);
        due("0123", "", 0, 0, 0, 0, 0);
        due("0123", "0", 0, 1, 1, 1, 1);
        due("0123", "3", 0, 0, 0, 0, 1);
        due("0123", "0123", 0, 0, 0, 0, 1);
        due("0123", "01230", 0, 0, 0, 0, 0);
        due("01230123", "23", 0, 0, 0, 0, 1, 1, 1, 1, 2);
        due("0000000", "000", 0, 0, 0, 1, 2, 3, 4, 5);
        due("0101013", "010", 0, 0, 0, 1, 1, 2, 2, 2);
        longText();
        Due.end();
    }

    private static void due(String text, String pattern, int... want) {
        LzwSearcher x = Searchers.with(text, pattern);
        for (int n = 0; n < want.length; n++) {
            same(x, text, pattern, n, want[n]);
        }
        int[] below = {-1, -120, Integer.MIN_VALUE};
        for (int n : below) {
            same(x, text, pattern, n, 0);
        }
        int[] above = {text.length() + 1, 121, Integer.MAX_VALUE};
        for (int n : above) {
            same(x, text, pattern, n, want[text.length()]);
        }
    }

    private static void same(LzwSearcher x, String text, String pattern, int n, int want) {
        Due.same("text " + text + ", pattern " + pattern + ": countWithin(" + n + ")", x.countWithin(n), want);
    }

    private static void longText() {
        LzwSearcher x = Searchers.with("2".repeat(120), "2".repeat(10));
        for (int n = 0; n <= 120; n++) {
            Due.same("many 2: countWithin(" + n + ")", x.countWithin(n), Math.max(0, n - 9));
        }
    }
}
