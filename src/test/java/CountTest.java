/** Promise 9: count. */
public final class CountTest {
    public static void main(String[] args) {
        Due.test("count: How many times the pattern occurs.", CountTest::ordinary);
        Due.test("count: with an empty pattern", CountTest::emptyPattern);
        Due.test("count: in an empty text", CountTest::emptyText);
        Due.test("count: with a pattern as long as the text, or longer", CountTest::longPattern);
        Due.test("count: in a full text, with one letter or ten", CountTest::fullText);
        Due.test("count: after text and pattern have changed", CountTest::followsChanges);
        Due.end();
    }

    private static void due(String text, String pattern, int want) {
        LzwSearcher x = Searchers.with(text, pattern);
        Due.same("text " + text + ", pattern " + pattern + ": count()", x.count(), want);
    }

    private static void ordinary() {
        due("0123", "0", 1);
        due("0123", "3", 1);
        due("0123", "1230", 0);
        due("01230123", "23", 2);
        due("0000000", "000", 5);
        due("0101010", "010", 3);
        due("0101010", "11", 0);
    }

    private static void emptyPattern() {
        for (String text : Searchers.TEXTS) {
            due(text, "", 0);
        }
    }

    private static void emptyText() {
        for (String pattern : Searchers.PATTERNS) {
            due("", pattern, 0);
        }
    }

    private static void longPattern() {
        String letters = "0012010233";
        for (int length = 1; length < 10; length++) {
            due(letters.substring(0, length), letters.substring(0, length), 1);
            due(letters.substring(0, length), letters.substring(0, length + 1), 0);
            due(letters.substring(0, length), letters, 0);
        }
        due(letters, letters, 1);
        due("000", "0000", 0);
    }

    private static void fullText() {
        due("0".repeat(120), "0", 120);
        due("0".repeat(120), "0".repeat(10), 111);
        due("01".repeat(60), "1010101010", 55);
        due("0".repeat(110) + "1230123012", "1230123012", 1);
        due("1230123012" + "0".repeat(110), "1230123012", 1);
        due("0".repeat(119) + "1", "1", 1);
    }

    private static void followsChanges() {
        LzwSearcher x = Searchers.with("012", "12");
        Due.same("012, 12: count()", x.count(), 1);
        x.repeat(0, 3);
        Due.same("012012, 12: count()", x.count(), 2);
        x.pattern(0);
        Due.same("012012, 120: count()", x.count(), 1);
        x.append(0);
        Due.same("0120120, 120: count()", x.count(), 2);
        x.clear();
        Due.same("no text, 120: count()", x.count(), 0);
    }
}
