/** Makes objects from strings of digits and reads them back through the public face. */
final class Searchers {
    static final int[] NOT_LETTERS = {-1, 4, 5, -4, 256, 1 << 30, Integer.MAX_VALUE, Integer.MIN_VALUE};

    private Searchers() {
    }

    static LzwSearcher with(String text, String pattern) {
        LzwSearcher x = new LzwSearcher();
        addText(x, text);
        addPattern(x, pattern);
        return x;
    }

    static void addText(LzwSearcher x, String text) {
        for (int i = 0; i < text.length(); i++) {
            x.append(text.charAt(i) - '0');
        }
    }

    static void addPattern(LzwSearcher x, String pattern) {
        for (int i = 0; i < pattern.length(); i++) {
            x.pattern(pattern.charAt(i) - '0');
        }
    }

    static String textOf(LzwSearcher x) {
        StringBuilder text = new StringBuilder();
        int length = x.length();
        for (int i = 0; i < length; i++) {
            text.append(x.letterAt(i));
        }
        return text.toString();
    }

    static String positionsOf(LzwSearcher x) {
        StringBuilder positions = new StringBuilder();
        int count = x.count();
        for (int n = 0; n < count; n++) {
            positions.append(x.position(n)).append(' ');
        }
        return positions.toString().trim();
    }

    /** Letters without an evident period: every pair and most triples turn up among 120 of them. */
    static String mixed(int length) {
        StringBuilder text = new StringBuilder();
        int state = 1;
        for (int i = 0; i < length; i++) {
            state = state * 1103515245 + 12345;
            text.append(state >>> 16 & 3);
        }
        return text.toString();
    }
}
