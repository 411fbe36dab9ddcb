/** Makes objects from strings of digits, reads them back, and names the edges that tests try. */
final class Searchers {
    // Some would be letters if only their lowest bits were looked at; so with the numbers below.
    static final int[] NOT_LETTERS = {-1, 4, -2, 5, -4, -253, 256, 259, 65536, 1 << 30,
        Integer.MAX_VALUE, Integer.MIN_VALUE, Integer.MIN_VALUE + 3};
    static final int[] BELOW_ZERO = {-1, -2, -120, -121, -128, -251, -256, -65536, -Integer.MAX_VALUE,
        Integer.MIN_VALUE};
    static final int[] ABOVE_120 = {121, 122, 127, 128, 255, 256, 257, 32768, 65536, 65537, 1 << 30,
        Integer.MAX_VALUE - 120, Integer.MAX_VALUE - 119, Integer.MAX_VALUE - 1, Integer.MAX_VALUE};
    // The empty and the full ones are among them, and the last that isn't full.
    static final String[] TEXTS = {"", "0", "3120", "0101010", mixed(119), mixed(120), "2".repeat(120)};
    static final String[] PATTERNS = {"", "2", "01", "012301230", "0123012301"};

    private Searchers() {
    }

    static LzwSearcher with(String text, String pattern) {
        LzwSearcher x = new LzwSearcher();
        addText(x, text);
        addPattern(x, pattern);
        return x;
    }

    static void addText(LzwSearcher x, String text) {
        for (int i = 0; i < text.length(); i++) {
            x.append(text.charAt(i) - '0');
        }
    }

    static void addPattern(LzwSearcher x, String pattern) {
        for (int i = 0; i < pattern.length(); i++) {
            x.pattern(pattern.charAt(i) - '0');
        }
    }

    static String textOf(LzwSearcher x) {
        StringBuilder text = new StringBuilder();
        int length = x.length();
        for (int i = 0; i < length; i++) {
            text.append(x.letterAt(i));
        }
        return text.toString();
    }

    /** Letters without an evident period: every pair and most triples turn up among 120 of them. */
    static String mixed(int length) {
        StringBuilder text = new StringBuilder();
        int state = 1;
        for (int i = 0; i < length; i++) {
            state = state * 1103515245 + 12345;
            text.append(state >>> 16 & 3);
        }
        return text.toString();
    }
}
