/** Promise 12: overlap. */
public final class OverlapTest {
    public static void main(String[] args) {
        Due.test("overlap: the pattern's first k letters are the text's last k letters", OverlapTest::ordinary);
        Due.test("overlap: The greatest number k", OverlapTest::greatest);
        Due.test("overlap: no letter overlaps, so k is 0", OverlapTest::none);
        Due.test("overlap: k at most the length of the text", OverlapTest::shortText);
        Due.test("overlap: k at most the length of the pattern", OverlapTest::shortPattern);
        Due.test("overlap: with an empty pattern", OverlapTest::emptyPattern);
        Due.test("overlap: with an empty text", OverlapTest::emptyText);
        Due.test("overlap: with a full text", OverlapTest::fullText);
        Due.end();
    }

    private static void ordinary() {
        due("0", "0", 1);
        due("0123", "3", 1);
        due("0123", "30", 1);
        due("0123", "23", 2);
        due("0123", "2301", 2);
        due("0123", "0123", 4);
    }

    private static void greatest() {
        due("2010", "0102", 3);
        due("1010", "0101", 3);
        due("1010", "1010", 4);
        due("0000", "00", 2);
        due("00100", "0010010", 5);
        due("300100", "0010010", 5);
    }

    private static void none() {
        due("0", "1", 0);
        due("0123", "12", 0);
        due("0123", "0", 0);
        due("3333", "0333", 0);
    }

    private static void shortText() {
        String letters = "0123012301";
        for (int length = 1; length <= 10; length++) {
            due(letters.substring(0, length), letters, length);
            due("2".repeat(length), "2222222222", length);
        }
        due("0", "10", 0);
        due("123", "0123", 0);
        due("00", "0001", 2);
    }

    private static void shortPattern() {
        for (int length = 1; length <= 10; length++) {
            due("1".repeat(12), "1".repeat(length), length);
            due("3333" + "0123012301".substring(0, length), "0123012301".substring(0, length), length);
        }
    }

    private static void emptyPattern() {
        for (String text : Searchers.TEXTS) {
            due(text, "", 0);
        }
        LzwSearcher x = Searchers.with("0000", "00");
        x.clearPattern();
        Due.same("pattern emptied: overlap()", x.overlap(), 0);
    }

    private static void emptyText() {
        for (String pattern : Searchers.PATTERNS) {
            due("", pattern, 0);
            LzwSearcher x = Searchers.with(pattern, pattern);
            x.clear();
            Due.same("cleared, pattern " + pattern + ": overlap()", x.overlap(), 0);
        }
    }

    private static void fullText() {
        due("0".repeat(120), "0".repeat(10), 10);
        due("0".repeat(119) + "1", "0000000001", 10);
        due("0".repeat(119) + "1", "0000000000", 0);
        due("0".repeat(119) + "1", "1000000000", 1);
    }

    private static void due(String text, String pattern, int want) {
        LzwSearcher x = Searchers.with(text, pattern);
        Due.same("text " + text + ", pattern " + pattern + ": overlap()", x.overlap(), want);
    }
}
