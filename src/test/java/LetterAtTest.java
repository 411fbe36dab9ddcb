/** Promise 8: letterAt. */
public final class LetterAtTest {
    public static void main(String[] args) {
        Due.test("letterAt: The text's letter at this index", LetterAtTest::everyIndex);
        Due.test("letterAt: NONE if there is none: an index below 0", LetterAtTest::tooSmall);
        Due.test("letterAt: NONE if there is none: an index at the length or above", LetterAtTest::tooLarge);
        Due.test("letterAt: NONE if there is none: an empty text", LetterAtTest::emptyText);
        Due.test("letterAt: NONE if there is none: a text that was longer before", LetterAtTest::afterClear);
        Due.end();
    }

    private static void everyIndex() {
        String[] texts = {"0", "3", "0123", "0000000", "0101010101", Searchers.mixed(119),
            Searchers.mixed(120), "1".repeat(120), "0012".repeat(30)};
        for (String text : texts) {
            LzwSearcher x = Searchers.with(text, "");
            for (int index = 0; index < text.length(); index++) {
                Due.same(text + ": letterAt(" + index + ")", x.letterAt(index), text.charAt(index) - '0');
            }
        }
    }

    private static void tooSmall() {
        for (String text : Searchers.TEXTS) {
            none(Searchers.with(text, ""), text, Searchers.BELOW_ZERO);
        }
    }

    private static void tooLarge() {
        for (int length = 1; length <= 120; length++) {
            String text = Searchers.mixed(length);
            LzwSearcher x = Searchers.with(text, "");
            Due.same(text + ": letterAt(length - 1)", x.letterAt(length - 1), text.charAt(length - 1) - '0');
            none(x, text, length, length + 1, 120);
            none(x, text, Searchers.ABOVE_120);
        }
    }

    private static void emptyText() {
        none(new LzwSearcher(), "", -1, 0, 1, 119, 120);
        none(new LzwSearcher(), "", Searchers.ABOVE_120);
    }

    private static void afterClear() {
        LzwSearcher x = Searchers.with(Searchers.mixed(120), "");
        x.clear();
        none(x, "", -1, 0, 1, 119, 120);
        x.append(2);
        Due.same("2: letterAt(0)", x.letterAt(0), 2);
        none(x, "2", -1, 1, 2, 119, 120);
    }

    private static void none(LzwSearcher x, String text, int... indexes) {
        for (int index : indexes) {
            Due.same(text + ": letterAt(" + index + ")", x.letterAt(index), LzwSearcher.NONE);
        }
    }
}
