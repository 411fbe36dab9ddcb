/** Promise 8: letterAt. */
public final class LetterAtTest {
    public static void main(String[] args) {
        String[] texts = {"", "0", "3", "0123", "0000000", "0101010101", Searchers.mixed(119),
            Searchers.mixed(120), "1".repeat(120), "0012".repeat(30)};
        for (String text : texts) {
            everyIndex(text);
        }
        afterClear();
        Due.end();
    }

    private static void everyIndex(String text) {
        LzwSearcher x = Searchers.with(text, "");
        for (int index = 0; index < text.length(); index++) {
            Due.same(text + ": letterAt(" + index + ")", x.letterAt(index), text.charAt(index) - '0');
        }
        int[] outside = {-1, -2, text.length(), text.length() + 1, 121, 1000, Integer.MAX_VALUE, Integer.MIN_VALUE};
        for (int index : outside) {
            Due.same(text + ": letterAt(" + index + ")", x.letterAt(index), LzwSearcher.NONE);
        }
    }

    private static void afterClear() {
        LzwSearcher x = Searchers.with("0123", "");
        x.clear();
        x.append(2);
        Due.same("2: letterAt(0)", x.letterAt(0), 2);
        Due.same("2: letterAt(1)", x.letterAt(1), LzwSearcher.NONE);
    }
}
