/** Promise 1: a new object. */
public final class NewObjectTest {
    public static void main(String[] args) {
        Due.test("LzwSearcher(): Empty text", NewObjectTest::emptyText);
        Due.test("LzwSearcher(): empty pattern.", NewObjectTest::emptyPattern);
        Due.test("LzwSearcher(): each object has its own text and pattern", NewObjectTest::objectsAreApart);
        Due.end();
    }

    private static void emptyText() {
        LzwSearcher x = new LzwSearcher();
        Due.same("new: length()", x.length(), 0);
        Due.same("new: letterAt(0)", x.letterAt(0), LzwSearcher.NONE);
        Due.same("new: repeat(0, 0)", x.repeat(0, 0), LzwSearcher.BAD_PLACE);
        for (int letter = 0; letter < 4; letter++) {
            Due.same("new: frequency(" + letter + ", 120)", x.frequency(letter, 120), 0);
            Due.same("new: append(" + letter + ")", new LzwSearcher().append(letter), 1);
        }
        State.due("new", x, "", "");
    }

    private static void emptyPattern() {
        LzwSearcher x = new LzwSearcher();
        Due.same("new: count()", x.count(), 0);
        Due.same("new: position(0)", x.position(0), LzwSearcher.NONE);
        Due.same("new: overlap()", x.overlap(), 0);
        Due.same("new: countWithin(120)", x.countWithin(120), 0);
        for (int letter = 0; letter < 4; letter++) {
            Due.same("new: pattern(" + letter + ")", new LzwSearcher().pattern(letter), 1);
        }
        Searchers.addText(x, "0123");
        Due.same("0123, no pattern: count()", x.count(), 0);
        Due.same("0123, no pattern: overlap()", x.overlap(), 0);
    }

    private static void objectsAreApart() {
        LzwSearcher first = Searchers.with("0123", "12");
        LzwSearcher second = new LzwSearcher();
        State.due("made after another", second, "", "");
        State.due("made before another", first, "0123", "12");
    }
}
