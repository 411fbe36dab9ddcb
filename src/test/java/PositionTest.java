/** Promise 10: position. */
public final class PositionTest {
    public static void main(String[] args) {
        due("", "");
        due("0123", "");
        due("", "0");
        due("0123", "0", 0);
        due("0123", "3", 3);
        due("0123", "0123", 0);
        due("0123", "01230");
        due("0123", "1230");
        due("01230123", "23", 2, 6);
        due("0000000", "000", 0, 1, 2, 3, 4);
        due("10101013", "101", 0, 2, 4);
        due("3301033010", "3010", 1, 6);
        due("0".repeat(110) + "1230123012", "1230123012", 110);
        Due.same("the last position of many", Searchers.with("0".repeat(120), "0").position(119), 119);
        Due.end();
    }

    private static void due(String text, String pattern, int... want) {
        LzwSearcher x = Searchers.with(text, pattern);
        String state = "text " + text + ", pattern " + pattern + ": ";
        for (int n = 0; n < want.length; n++) {
            Due.same(state + "position(" + n + ")", x.position(n), want[n]);
        }
        int[] outside = {want.length, want.length + 1, 120, -1, -2, Integer.MAX_VALUE, Integer.MIN_VALUE};
        for (int n : outside) {
            Due.same(state + "position(" + n + ")", x.position(n), LzwSearcher.NONE);
        }
    }
}
