import java.lang.reflect.Array;
import java.lang.reflect.Field;
import java.util.ArrayList;
import java.util.List;

/**
 * What it is: the text is kept compressed. How the state is held is free, so this counts only how
 * much of it a text takes up: held letter by letter, these texts would take a cell for each.
 */
public final class KeptCompressedTest {
    // A 0 might leave a cell as it was in a new object, so none of them has one.
    private static final String[] TEXTS = {"1".repeat(120), "3".repeat(120), "12".repeat(60), "123".repeat(40)};

    public static void main(String[] args) {
        Due.test("kept compressed: a text that repeats itself, appended", KeptCompressedTest::appended);
        Due.test("kept compressed: a text that repeats itself, made by repeat", KeptCompressedTest::repeated);
        Due.end();
    }

    private static void appended() {
        for (String text : TEXTS) {
            fewCells(Searchers.with(text, ""), text);
        }
    }

    private static void repeated() {
        for (String text : TEXTS) {
            LzwSearcher x = Searchers.with(text.substring(0, 6), "");
            x.repeat(0, 114);
            fewCells(x, text);
        }
    }

    private static void fewCells(LzwSearcher x, String text) {
        List<Object> without = cells(new LzwSearcher());
        List<Object> with = cells(x);
        int taken = 0;
        for (int i = 0; i < with.size(); i++) {
            if (!with.get(i).equals(without.get(i))) {
                taken++;
            }
        }
        boolean fewer = taken < text.length();
        Due.same(text, fewer ? "fewer cells than letters" : taken + " cells", "fewer cells than letters");
    }

    /** All that the object holds: its numbers, and those in its arrays. */
    private static List<Object> cells(LzwSearcher x) {
        List<Object> cells = new ArrayList<>();
        for (Field field : LzwSearcher.class.getDeclaredFields()) {
            Object value = valueOf(field, x);
            if (field.getType().isArray()) {
                for (int i = 0; i < Array.getLength(value); i++) {
                    cells.add(Array.get(value, i));
                }
            } else {
                cells.add(value);
            }
        }
        return cells;
    }

    private static Object valueOf(Field field, LzwSearcher x) {
        try {
            field.setAccessible(true);
            return field.get(x);
        } catch (IllegalAccessException refused) {
            throw new IllegalStateException(refused);
        }
    }
}
