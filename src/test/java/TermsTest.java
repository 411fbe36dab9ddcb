/** Terms: how the text grows, what a pattern is, and where it occurs. */
public final class TermsTest {
    public static void main(String[] args) {
        Due.test("The text grows at its end", TermsTest::growsAtItsEnd);
        Due.test("is cut back only as a whole", TermsTest::cutBackOnlyAsAWhole);
        Due.test("How it is compressed can't be seen: a text made by repeat", TermsTest::madeByRepeat);
        Due.test("How it is compressed can't be seen: a text made after another", TermsTest::madeAfterAnother);
        Due.test("A PATTERN is a list of at most ten letters.", TermsTest::atMostTenLetters);
        Due.test("OCCURS at index i: the first index and the last", TermsTest::firstAndLastIndex);
        Due.test("all of them in the text", TermsTest::allInTheText);
        Due.test("all of them in the text: not in one that was cleared", TermsTest::notInAClearedText);
        Due.test("occurrences may overlap", TermsTest::mayOverlap);
        Due.test("The empty pattern occurs nowhere.", TermsTest::emptyPattern);
        Due.end();
    }

    private static void growsAtItsEnd() {
        String text = Searchers.mixed(120);
        for (int length = 1; length < 120; length++) {
            LzwSearcher x = Searchers.with(text.substring(0, length), "");
            x.append(3);
            Due.same("the text after append(3)", Searchers.textOf(x), text.substring(0, length) + "3");
            LzwSearcher y = Searchers.with(text.substring(0, length), "");
            y.repeat(0, 1);
            Due.same("the text after repeat(0, 1)", Searchers.textOf(y), text.substring(0, length) + text.charAt(0));
        }
    }

    private static void cutBackOnlyAsAWhole() {
        for (String text : Searchers.TEXTS) {
            LzwSearcher x = Searchers.with(text, "0123012301");
            x.pattern(1);
            x.clearPattern();
            x.pattern(1);
            x.append(-1);
            x.repeat(-1, 1);
            x.repeat(0, -1);
            x.repeat(0, 121);
            Due.same("the text before clear", Searchers.textOf(x), text);
            x.clear();
            Due.same("cleared: length()", x.length(), 0);
            Due.same("cleared: letterAt(0)", x.letterAt(0), LzwSearcher.NONE);
        }
    }

    private static void madeByRepeat() {
        for (String text : Searchers.TEXTS) {
            for (String pattern : Searchers.PATTERNS) {
                LzwSearcher x = new LzwSearcher();
                addByRepeat(x, text);
                Searchers.addPattern(x, pattern);
                State.due("made by repeat", x, text, pattern);
            }
        }
    }

    /** Repeats the longest stretch that has what comes next, and appends where there is none. */
    private static void addByRepeat(LzwSearcher x, String text) {
        int at = 0;
        while (at < text.length()) {
            int from = longestBefore(text, at);
            int n = from < at ? common(text, from, at) : 0;
            if (n > 0) {
                x.repeat(from, n);
            } else {
                x.append(text.charAt(at) - '0');
            }
            at += Math.max(n, 1);
        }
    }

    /** The index before this one from which on most letters are those from this one on. */
    private static int longestBefore(String text, int at) {
        int best = 0;
        for (int from = 1; from < at; from++) {
            if (common(text, from, at) > common(text, best, at)) {
                best = from;
            }
        }
        return best;
    }

    /** How many letters from the one index on are those from the other on. */
    private static int common(String text, int first, int second) {
        int n = 0;
        while (second + n < text.length() && text.charAt(first + n) == text.charAt(second + n)) {
            n++;
        }
        return n;
    }

    private static void madeAfterAnother() {
        for (String old : new String[] {"0", "3120", "01".repeat(15), "2".repeat(30)}) {
            for (String text : Searchers.TEXTS) {
                for (String pattern : Searchers.PATTERNS) {
                    LzwSearcher x = Searchers.with(old, "");
                    x.clear();
                    Searchers.addText(x, text);
                    Searchers.addPattern(x, pattern);
                    State.due("made after " + old, x, text, pattern);
                }
            }
        }
    }

    private static void atMostTenLetters() {
        String ten = "0123012301";
        LzwSearcher x = Searchers.with("3" + ten + "2" + ten, ten);
        Due.same("ten letters: count()", x.count(), 2);
        Due.same("ten letters: pattern(2)", x.pattern(2), LzwSearcher.FULL);
        Due.same("still ten letters: count()", x.count(), 2);
        Due.same("still ten letters: overlap()", x.overlap(), 10);
        // Each of the ten letters counts: a text that differs in one of them holds no occurrence.
        for (int i = 0; i < 10; i++) {
            String other = ten.substring(0, i) + (ten.charAt(i) - '0' + 1) % 4 + ten.substring(i + 1);
            Due.same(other + ": count()", Searchers.with(other, ten).count(), 0);
        }
    }

    private static void firstAndLastIndex() {
        for (int length = 1; length <= 10; length++) {
            String pattern = "1230123012".substring(0, length);
            for (int gap : new int[] {0, 1, 2, 120 - 2 * length}) {
                occursAtBothEnds(pattern, gap);
            }
        }
    }

    private static void occursAtBothEnds(String pattern, int gap) {
        String text = pattern + "0".repeat(gap) + pattern;
        LzwSearcher x = Searchers.with(text, pattern);
        String told = "text " + text + ", pattern " + pattern + ": ";
        Due.same(told + "position(0)", x.position(0), 0);
        int last = x.count() - 1;
        Due.same(told + "position of the last", x.position(last), text.length() - pattern.length());
    }

    /** The text ends with all of the pattern's letters but the last ones. */
    private static void allInTheText() {
        String pattern = "1230123011";
        for (int k = 0; k < 10; k++) {
            nowhere(pattern.substring(0, k), pattern);
            nowhere("0000" + pattern.substring(0, k), pattern);
            nowhere("0".repeat(120 - k) + pattern.substring(0, k), pattern);
        }
        nowhere("000", "0000");
        nowhere("1".repeat(119) + "0", "00");
    }

    /** What was left behind by an old text must not complete the pattern. */
    private static void notInAClearedText() {
        String pattern = "0101";
        for (String old : new String[] {"0101", "01010101", "01".repeat(60), "0".repeat(120)}) {
            LzwSearcher x = Searchers.with(old, pattern);
            x.clear();
            Due.same("cleared " + old + ": count()", x.count(), 0);
            Searchers.addText(x, "010");
            Due.same("010 after " + old + ": count()", x.count(), 0);
            Due.same("010 after " + old + ": position(0)", x.position(0), LzwSearcher.NONE);
            Due.same("010 after " + old + ": countWithin(120)", x.countWithin(120), 0);
            Due.same("010 after " + old + ": overlap()", x.overlap(), 3);
        }
    }

    private static void nowhere(String text, String pattern) {
        LzwSearcher x = Searchers.with(text, pattern);
        String told = "text " + text + ", pattern " + pattern + ": ";
        Due.same(told + "count()", x.count(), 0);
        Due.same(told + "position(0)", x.position(0), LzwSearcher.NONE);
        Due.same(told + "countWithin(120)", x.countWithin(120), 0);
    }

    private static void mayOverlap() {
        for (int length = 1; length <= 10; length++) {
            LzwSearcher x = Searchers.with("3".repeat(120), "3".repeat(length));
            int last = 120 - length;
            Due.same(length + " times 3: count()", x.count(), last + 1);
            Due.same(length + " times 3: countWithin(120)", x.countWithin(120), last + 1);
            for (int n = 0; n <= last; n++) {
                Due.same(length + " times 3: position(" + n + ")", x.position(n), n);
            }
        }
        LzwSearcher x = Searchers.with("0120120", "0120");
        Due.same("0120120, 0120: count()", x.count(), 2);
        Due.same("0120120, 0120: position(1)", x.position(1), 3);
    }

    private static void emptyPattern() {
        for (String text : Searchers.TEXTS) {
            occursNowhere(Searchers.with(text, ""), "never a pattern, text " + text);
            LzwSearcher x = Searchers.with(text, "0123012301");
            x.clearPattern();
            occursNowhere(x, "pattern emptied, text " + text);
            LzwSearcher y = Searchers.with(text, "");
            y.pattern(4);
            occursNowhere(y, "pattern refused, text " + text);
        }
    }

    private static void occursNowhere(LzwSearcher x, String told) {
        Due.same(told + ": count()", x.count(), 0);
        for (int n = -1; n <= 121; n++) {
            Due.same(told + ": position(" + n + ")", x.position(n), LzwSearcher.NONE);
            Due.same(told + ": countWithin(" + n + ")", x.countWithin(n), 0);
        }
    }
}
