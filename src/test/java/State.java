import java.util.function.Consumer;

/** Holds an object to all that it must answer when it has a certain text and pattern. */
final class State {
    private State() {
    }

    /** A call on objects of all texts and patterns that are tried leaves each of them as it was. */
    static void keptBy(String call, Consumer<LzwSearcher> made) {
        for (String text : Searchers.TEXTS) {
            keptBy(call, made, text);
        }
    }

    static void keptBy(String call, Consumer<LzwSearcher> made, String text) {
        for (String pattern : Searchers.PATTERNS) {
            LzwSearcher x = Searchers.with(text, pattern);
            made.accept(x);
            due("after " + call, x, text, pattern);
        }
    }

    /** Uses the object up, with at most 330 calls. */
    static void due(String when, LzwSearcher x, String text, String pattern) {
        PlainModel model = new PlainModel(text, pattern);
        String told = when + ", text " + text + ", pattern " + pattern + ": ";
        answers(told, x, model);
        // What a call has spoilt may be seen only when the text grows, or is made anew.
        grow(told, x, model);
        answers(told + "grown, ", x, model);
        searchThePattern(told + "anew, ", x, model, pattern);
    }

    private static void answers(String told, LzwSearcher x, PlainModel model) {
        int length = model.length();
        int count = model.count();
        Due.same(told + "length()", x.length(), length);
        for (int index = -1; index <= length; index++) {
            Due.same(told + "letterAt(" + index + ")", x.letterAt(index), model.letterAt(index));
        }
        Due.same(told + "count()", x.count(), count);
        Due.same(told + "overlap()", x.overlap(), model.overlap());
        for (int n : new int[] {-1, 0, 1, count - 1, count}) {
            Due.same(told + "position(" + n + ")", x.position(n), model.position(n));
        }
        for (int n : new int[] {-1, 0, 1, 9, 10, length - 1, length, length + 1}) {
            Due.same(told + "countWithin(" + n + ")", x.countWithin(n), model.countWithin(n));
        }
        for (int letter = -1; letter <= 4; letter++) {
            Due.same(told + "frequency(" + letter + ", 120)", x.frequency(letter, 120), model.frequency(letter, 120));
        }
    }

    private static void grow(String told, LzwSearcher x, PlainModel model) {
        for (int letter = 3; letter >= 0; letter--) {
            Due.same(told + "append(" + letter + ")", x.append(letter), model.append(letter));
        }
        Due.same(told + "repeat(1, 5)", x.repeat(1, 5), model.repeat(1, 5));
    }

    /** In a text that is the pattern, only this pattern both occurs and overlaps as a whole. */
    private static void searchThePattern(String told, LzwSearcher x, PlainModel model, String pattern) {
        x.clear();
        model.clear();
        for (char letter : pattern.toCharArray()) {
            Due.same(told + "append(" + letter + ")", x.append(letter - '0'), model.append(letter - '0'));
        }
        Due.same(told + "count()", x.count(), model.count());
        Due.same(told + "overlap()", x.overlap(), model.overlap());
        Due.same(told + "pattern(0)", x.pattern(0), model.pattern(0));
    }
}
