/** Promise 11: frequency. */
public final class FrequencyTest {
    private static final String[] TEXTS = {"", "2", "0012010233", "3".repeat(120), Searchers.mixed(120)};

    public static void main(String[] args) {
        Due.test("frequency: How many of the text's first n letters are this letter", FrequencyTest::everyPrefix);
        Due.test("frequency: n of 0", FrequencyTest::nothing);
        Due.test("frequency: n below 0 counts as 0", FrequencyTest::belowZero);
        Due.test("frequency: n above the length [counts] as the length", FrequencyTest::aboveTheLength);
        Due.test("frequency: in an empty text", FrequencyTest::emptyText);
        Due.test("frequency: letter not in 0 to 3: BAD_LETTER", FrequencyTest::badLetter);
        Due.end();
    }

    private static void everyPrefix() {
        for (String text : TEXTS) {
            for (int letter = 0; letter < 4; letter++) {
                // A new object for each letter, as one object is used for 512 calls at most.
                LzwSearcher x = Searchers.with(text, "01");
                for (int n = 0; n <= text.length(); n++) {
                    same(x, text, letter, n, among(text.substring(0, n), letter));
                }
            }
        }
    }

    private static void nothing() {
        prefixOf(0, 0);
    }

    private static void belowZero() {
        prefixOf(0, Searchers.BELOW_ZERO);
    }

    private static void aboveTheLength() {
        for (int length = 0; length <= 120; length++) {
            String text = Searchers.mixed(length);
            LzwSearcher x = Searchers.with(text, "");
            for (int letter = 0; letter < 4; letter++) {
                same(x, text, letter, length, among(text, letter));
                same(x, text, letter, length + 1, among(text, letter));
                same(x, text, letter, length + 2, among(text, letter));
            }
        }
        prefixOf(120, Searchers.ABOVE_120);
    }

    private static void emptyText() {
        LzwSearcher x = new LzwSearcher();
        LzwSearcher cleared = Searchers.with(Searchers.mixed(120), "");
        cleared.clear();
        for (int letter = 0; letter < 4; letter++) {
            for (int n : new int[] {-1, 0, 1, 120, 121, Integer.MAX_VALUE, Integer.MIN_VALUE}) {
                same(x, "", letter, n, 0);
                same(cleared, "", letter, n, 0);
            }
        }
    }

    private static void badLetter() {
        for (String text : TEXTS) {
            for (int letter : Searchers.NOT_LETTERS) {
                LzwSearcher x = Searchers.with(text, "");
                for (int n : new int[] {-1, 0, 1, text.length(), 121, Integer.MAX_VALUE, Integer.MIN_VALUE}) {
                    same(x, text, letter, n, LzwSearcher.BAD_LETTER);
                }
            }
        }
    }

    /** For each n, the answer due is that for the text's first letters, as many as counted. */
    private static void prefixOf(int counted, int... numbers) {
        for (String text : TEXTS) {
            String prefix = text.substring(0, Math.min(counted, text.length()));
            LzwSearcher x = Searchers.with(text, "");
            for (int letter = 0; letter < 4; letter++) {
                for (int n : numbers) {
                    same(x, text, letter, n, among(prefix, letter));
                }
            }
        }
    }

    private static int among(String letters, int letter) {
        return (int) letters.chars().filter(c -> c == '0' + letter).count();
    }

    private static void same(LzwSearcher x, String text, int letter, int n, int want) {
        Due.same(text + ": frequency(" + letter + ", " + n + ")", x.frequency(letter, n), want);
    }
}
