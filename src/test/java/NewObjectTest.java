/** Promise 1: a new object has an empty text and an empty pattern. */
public final class NewObjectTest {
    public static void main(String[] args) {
        emptyText();
        emptyPattern();
        objectsAreApart();
        Due.end();
    }

    private static void emptyText() {
        LzwSearcher x = new LzwSearcher();
        Due.same("new: length()", x.length(), 0);
        Due.same("new: letterAt(0)", x.letterAt(0), LzwSearcher.NONE);
        Due.same("new: repeat(0, 0)", x.repeat(0, 0), LzwSearcher.BAD_PLACE);
        for (int letter = 0; letter < 4; letter++) {
            Due.same("new: frequency(" + letter + ", 120)", x.frequency(letter, 120), 0);
        }
        Due.same("new: append(0)", x.append(0), 1);
    }

    private static void emptyPattern() {
        LzwSearcher x = new LzwSearcher();
        Due.same("new: count()", x.count(), 0);
        Due.same("new: position(0)", x.position(0), LzwSearcher.NONE);
        Due.same("new: overlap()", x.overlap(), 0);
        Due.same("new: countWithin(120)", x.countWithin(120), 0);
        Due.same("new: pattern(0)", x.pattern(0), 1);
        Due.same("new, pattern 0: count()", x.count(), 0);
    }

    private static void objectsAreApart() {
        LzwSearcher first = Searchers.with("0123", "12");
        LzwSearcher second = new LzwSearcher();
        Due.same("second object: length()", second.length(), 0);
        Due.same("second object: pattern(3)", second.pattern(3), 1);
        second.append(3);
        Due.same("first object's text", Searchers.textOf(first), "0123");
        Due.same("first object: position(0)", first.position(0), 1);
    }
}
