/** Promise 9: count. */
public final class CountTest {
    public static void main(String[] args) {
        due("", "", 0);
        due("0123", "", 0);
        due("", "0", 0);
        due("0123", "0", 1);
        due("0123", "3", 1);
        due("0123", "0123", 1);
        due("0123", "01230", 0);
        due("0123", "1230", 0);
        due("012", "0120120120", 0);
        due("01230123", "23", 2);
        due("0000000", "000", 5);
        due("0101010", "010", 3);
        due("0101010", "11", 0);
        due("0".repeat(120), "0".repeat(10), 111);
        due("0".repeat(120), "0", 120);
        due("01".repeat(60), "1010101010", 55);
        due("0".repeat(110) + "1230123012", "1230123012", 1);
        followsChanges();
        Due.end();
    }

    private static void due(String text, String pattern, int want) {
        LzwSearcher x = Searchers.with(text, pattern);
        Due.same("text " + text + ", pattern " + pattern + ": count()", x.count(), want);
    }

    private static void followsChanges() {
        LzwSearcher x = Searchers.with("012", "12");
        Due.same("012, 12: count()", x.count(), 1);
        x.repeat(0, 3);
        Due.same("012012, 12: count()", x.count(), 2);
        x.pattern(0);
        Due.same("012012, 120: count()", x.count(), 1);
        x.append(0);
        Due.same("0120120, 120: count()", x.count(), 2);
    }
}
