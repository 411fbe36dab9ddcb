/** The document's words over plain strings, to compare long runs of calls with. */
final class PlainModel {
    private String text;
    private String pattern;

    PlainModel(String text, String pattern) {
        this.text = text;
        this.pattern = pattern;
    }

    int append(int letter) {
        if (letter < 0 || letter > 3) {
            return -1;
        }
        if (text.length() == 120) {
            return -2;
        }
        text += letter;
        return text.length();
    }

    int repeat(int from, int n) {
        if (from < 0 || from >= text.length()) {
            return -3;
        }
        if ((long) text.length() + Math.max(n, 0) > 120) {
            return -2;
        }
        for (int i = 0; i < n; i++) {
            text += text.charAt(from + i);
        }
        return text.length();
    }

    void clear() {
        text = "";
    }

    int pattern(int letter) {
        if (letter < 0 || letter > 3) {
            return -1;
        }
        if (pattern.length() == 10) {
            return -2;
        }
        pattern += letter;
        return pattern.length();
    }

    void clearPattern() {
        pattern = "";
    }

    int length() {
        return text.length();
    }

    int letterAt(int index) {
        return index < 0 || index >= text.length() ? -4 : text.charAt(index) - '0';
    }

    int count() {
        return countWithin(text.length());
    }

    int position(int n) {
        int at = pattern.isEmpty() || n < 0 ? -1 : text.indexOf(pattern);
        for (int i = 0; i < n && at >= 0; i++) {
            at = text.indexOf(pattern, at + 1);
        }
        return at < 0 ? -4 : at;
    }

    int frequency(int letter, int n) {
        if (letter < 0 || letter > 3) {
            return -1;
        }
        return (int) prefix(n).chars().filter(c -> c == '0' + letter).count();
    }

    int overlap() {
        int k = Math.min(text.length(), pattern.length());
        while (!text.endsWith(pattern.substring(0, k))) {
            k--;
        }
        return k;
    }

    int countWithin(int n) {
        String prefix = prefix(n);
        int found = 0;
        for (int i = 0; i < prefix.length(); i++) {
            if (!pattern.isEmpty() && prefix.startsWith(pattern, i)) {
                found++;
            }
        }
        return found;
    }

    private String prefix(int n) {
        return text.substring(0, Math.max(0, Math.min(n, text.length())));
    }
}
