/** Promise 3: repeat. */
public final class RepeatTest {
    public static void main(String[] args) {
        insideTheText();
        intoWhatIsAppended();
        everyStretch();
        nothingToRepeat();
        wrongPlaces();
        tooMuch();
        Due.end();
    }

    private static void insideTheText() {
        LzwSearcher x = Searchers.with("01230", "");
        Due.same("01230: repeat(1, 3)", x.repeat(1, 3), 8);
        Due.same("the text after it", Searchers.textOf(x), "01230123");
        Due.same("append(2) after it", x.append(2), 9);
        Due.same("the text after that", Searchers.textOf(x), "012301232");
    }

    private static void intoWhatIsAppended() {
        LzwSearcher x = Searchers.with("201", "");
        Due.same("201: repeat(1, 7)", x.repeat(1, 7), 10);
        Due.same("the text after it", Searchers.textOf(x), "2010101010");
        LzwSearcher y = Searchers.with("3", "");
        Due.same("3: repeat(0, 119)", y.repeat(0, 119), 120);
        Due.same("the text after it", Searchers.textOf(y), "3".repeat(120));
    }

    private static void everyStretch() {
        String text = "0012010233";
        for (int from = 0; from < text.length(); from++) {
            for (int n = 0; n <= 110; n++) {
                StringBuilder want = new StringBuilder(text);
                for (int i = 0; i < n; i++) {
                    want.append(want.charAt(from + i));
                }
                LzwSearcher x = Searchers.with(text, "");
                String call = text + ": repeat(" + from + ", " + n + ")";
                Due.same(call, x.repeat(from, n), text.length() + n);
                Due.same("the text after " + call, Searchers.textOf(x), want.toString());
            }
        }
    }

    private static void nothingToRepeat() {
        LzwSearcher x = Searchers.with("012", "");
        int[] none = {0, -1, -120, Integer.MIN_VALUE};
        for (int n : none) {
            Due.same("012: repeat(2, " + n + ")", x.repeat(2, n), 3);
        }
        Due.same("the text after it", Searchers.textOf(x), "012");
        LzwSearcher full = Searchers.with(Searchers.mixed(120), "");
        Due.same("full: repeat(119, 0)", full.repeat(119, 0), 120);
        Due.same("full: repeat(0, -1)", full.repeat(0, -1), 120);
    }

    private static void wrongPlaces() {
        int[] places = {3, 4, 119, 120, -1, Integer.MAX_VALUE, Integer.MIN_VALUE};
        // The document names the bad place first, so it is told even when n is too great.
        int[] amounts = {-1, 0, 1, 117, 118, Integer.MAX_VALUE};
        LzwSearcher x = Searchers.with("012", "");
        for (int from : places) {
            for (int n : amounts) {
                Due.same("012: repeat(" + from + ", " + n + ")", x.repeat(from, n), LzwSearcher.BAD_PLACE);
            }
        }
        Due.same("the text after it", Searchers.textOf(x), "012");
        LzwSearcher empty = new LzwSearcher();
        for (int n : amounts) {
            Due.same("empty: repeat(0, " + n + ")", empty.repeat(0, n), LzwSearcher.BAD_PLACE);
        }
        Due.same("empty: length()", empty.length(), 0);
        LzwSearcher full = Searchers.with(Searchers.mixed(120), "");
        Due.same("full: repeat(120, 0)", full.repeat(120, 0), LzwSearcher.BAD_PLACE);
    }

    private static void tooMuch() {
        LzwSearcher x = Searchers.with("012", "");
        int[] amounts = {118, 119, 120, 121, Integer.MAX_VALUE - 3, Integer.MAX_VALUE - 2, Integer.MAX_VALUE};
        for (int n : amounts) {
            Due.same("012: repeat(0, " + n + ")", x.repeat(0, n), LzwSearcher.FULL);
        }
        Due.same("the text after it", Searchers.textOf(x), "012");
        Due.same("012: repeat(0, 117)", x.repeat(0, 117), 120);
        Due.same("full: repeat(0, 1)", x.repeat(0, 1), LzwSearcher.FULL);
        Due.same("the full text", Searchers.textOf(x), "012".repeat(40));
    }
}
