/** Promise 11: frequency. */
public final class FrequencyTest {
    public static void main(String[] args) {
        everyPrefix("");
        everyPrefix("2");
        everyPrefix("0012010233");
        everyPrefix("3".repeat(120));
        everyPrefix(Searchers.mixed(120));
        wrongLetters("");
        wrongLetters("0123");
        Due.end();
    }

    private static void everyPrefix(String text) {
        for (int letter = 0; letter < 4; letter++) {
            LzwSearcher x = Searchers.with(text, "01");
            int found = 0;
            for (int n = 0; n <= text.length(); n++) {
                Due.same(text + ": frequency(" + letter + ", " + n + ")", x.frequency(letter, n), found);
                if (n < text.length() && text.charAt(n) - '0' == letter) {
                    found++;
                }
            }
            int[] above = {text.length() + 1, 121, Integer.MAX_VALUE};
            for (int n : above) {
                Due.same(text + ": frequency(" + letter + ", " + n + ")", x.frequency(letter, n), found);
            }
            int[] below = {-1, -120, Integer.MIN_VALUE};
            for (int n : below) {
                Due.same(text + ": frequency(" + letter + ", " + n + ")", x.frequency(letter, n), 0);
            }
        }
    }

    private static void wrongLetters(String text) {
        LzwSearcher x = Searchers.with(text, "");
        int[] amounts = {-1, 0, 1, 4, 121};
        for (int letter : Searchers.NOT_LETTERS) {
            for (int n : amounts) {
                Due.same(text + ": frequency(" + letter + ", " + n + ")", x.frequency(letter, n), LzwSearcher.BAD_LETTER);
            }
        }
    }
}
