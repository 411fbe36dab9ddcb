/** Terms: length, letterAt, count, position, frequency, overlap and countWithin change no answer. */
public final class QueriesChangeNothingTest {
    private static final int[] ARGUMENTS = {0, 1, 3, 5, -1, 4, 119, 120, 121, Integer.MAX_VALUE, Integer.MIN_VALUE};

    public static void main(String[] args) {
        String[] texts = {"", "0", "0101010", "0012010233", Searchers.mixed(55)};
        String[] patterns = {"", "0", "01", "0123012301"};
        for (String text : texts) {
            for (String pattern : patterns) {
                askedAndUnasked(text, pattern);
            }
        }
        Due.end();
    }

    private static void askedAndUnasked(String text, String pattern) {
        LzwSearcher asked = Searchers.with(text, pattern);
        String before = everyAnswer(asked);
        Due.same("asked twice, text " + text + ", pattern " + pattern, everyAnswer(asked), before);
        LzwSearcher unasked = Searchers.with(text, pattern);
        Due.same("append(1) after questions", asked.append(1), unasked.append(1));
        Due.same("pattern(1) after questions", asked.pattern(1), unasked.pattern(1));
        Due.same("repeat(0, 9) after questions", asked.repeat(0, 9), unasked.repeat(0, 9));
        Due.same("later answers, text " + text + ", pattern " + pattern, everyAnswer(asked), everyAnswer(unasked));
    }

    private static String everyAnswer(LzwSearcher x) {
        StringBuilder answers = new StringBuilder();
        answers.append(x.length()).append(' ').append(x.count()).append(' ').append(x.overlap());
        for (int n : ARGUMENTS) {
            answers.append(' ').append(x.letterAt(n)).append(' ').append(x.position(n));
            answers.append(' ').append(x.countWithin(n));
            answers.append(' ').append(x.frequency(0, n)).append(' ').append(x.frequency(n, 3));
        }
        return answers.append(' ').append(Searchers.textOf(x)).toString();
    }
}
