/** Promise 12: overlap. */
public final class OverlapTest {
    public static void main(String[] args) {
        due("", "", 0);
        due("0", "", 0);
        due("", "0", 0);
        due("0", "0", 1);
        due("0", "1", 0);
        due("0123", "3", 1);
        due("0123", "30", 1);
        due("0123", "0123", 4);
        due("0123", "01230", 4);
        due("0123", "0123012301", 4);
        due("0123", "23", 2);
        due("0123", "2301", 2);
        due("0123", "12", 0);
        // The greatest k counts, not the first one that fits.
        due("2010", "0102", 3);
        due("0000", "00", 2);
        due("00", "0001", 2);
        due("1010", "0101", 3);
        due("0".repeat(120), "0".repeat(10), 10);
        due("0".repeat(119) + "1", "0000000001", 10);
        due("0".repeat(119) + "1", "0000000000", 0);
        Due.end();
    }

    private static void due(String text, String pattern, int want) {
        LzwSearcher x = Searchers.with(text, pattern);
        Due.same("text " + text + ", pattern " + pattern + ": overlap()", x.overlap(), want);
    }
}
