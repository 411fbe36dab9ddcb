/** Promise 7: length. */
public final class LengthTest {
    public static void main(String[] args) {
        LzwSearcher x = new LzwSearcher();
        Due.same("empty: length()", x.length(), 0);
        for (int i = 1; i <= 120; i++) {
            x.append(i & 3);
            Due.same("length() after " + i + " letters", x.length(), i);
        }
        x.append(0);
        Due.same("full: length()", x.length(), 120);
        x.clear();
        Due.same("cleared: length()", x.length(), 0);
        x.append(2);
        x.repeat(0, 5);
        Due.same("length() after append and repeat", x.length(), 6);
        x.pattern(1);
        x.append(9);
        x.repeat(6, 1);
        x.repeat(0, 115);
        Due.same("length() after calls that were refused", x.length(), 6);
        Due.end();
    }
}
