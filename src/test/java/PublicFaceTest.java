import java.lang.reflect.Constructor;
import java.lang.reflect.Field;
import java.lang.reflect.Method;
import java.lang.reflect.Modifier;
import java.util.Arrays;
import java.util.Set;
import java.util.TreeSet;

/** The public face: its constants, constructor and methods, and no other member that can be seen. */
public final class PublicFaceTest {
    private static final Set<String> FACE = new TreeSet<>(Arrays.asList(
            "public static final int BAD_LETTER", "public static final int FULL",
            "public static final int BAD_PLACE", "public static final int NONE",
            "public LzwSearcher()",
            "public int append(int)", "public int repeat(int,int)", "public void clear()",
            "public int pattern(int)", "public void clearPattern()", "public int length()",
            "public int letterAt(int)", "public int count()", "public int position(int)",
            "public int frequency(int,int)", "public int overlap()", "public int countWithin(int)"));

    public static void main(String[] args) {
        Due.test("The public face: its constants", PublicFaceTest::constants);
        Due.test("The public face: its members, and no others that can be seen", PublicFaceTest::members);
        Due.test("The public face: public final class LzwSearcher", PublicFaceTest::oneFinalClass);
        Due.test("LANGUAGE.md, rule 2: the types of its fields", PublicFaceTest::fieldTypes);
        Due.end();
    }

    private static void oneFinalClass() {
        Due.same("the class's modifiers", Modifier.toString(LzwSearcher.class.getModifiers()), "public final");
        Due.same("what the class extends", LzwSearcher.class.getSuperclass().getName(), "java.lang.Object");
        Due.same("how many interfaces it implements", LzwSearcher.class.getInterfaces().length, 0);
        Due.same("the nested classes", LzwSearcher.class.getDeclaredClasses().length, 0);
    }

    private static void constants() {
        Due.same("BAD_LETTER", LzwSearcher.BAD_LETTER, -1);
        Due.same("FULL", LzwSearcher.FULL, -2);
        Due.same("BAD_PLACE", LzwSearcher.BAD_PLACE, -3);
        Due.same("NONE", LzwSearcher.NONE, -4);
    }

    private static void members() {
        Set<String> seen = new TreeSet<>();
        for (Field field : LzwSearcher.class.getDeclaredFields()) {
            note(seen, field.getModifiers(), field.toString());
        }
        for (Constructor<?> constructor : LzwSearcher.class.getDeclaredConstructors()) {
            note(seen, constructor.getModifiers(), constructor.toString());
        }
        for (Method method : LzwSearcher.class.getDeclaredMethods()) {
            note(seen, method.getModifiers(), method.toString());
        }
        Due.same("the members that are not private", seen.toString(), FACE.toString());
    }

    private static void note(Set<String> seen, int modifiers, String member) {
        if (!Modifier.isPrivate(modifiers)) {
            seen.add(member.replace("LzwSearcher.", ""));
        }
    }

    private static void fieldTypes() {
        for (Field field : LzwSearcher.class.getDeclaredFields()) {
            Class<?> type = field.getType();
            boolean plain = type.isPrimitive() || type.isArray() && type.getComponentType().isPrimitive();
            Due.same("whether " + field + " has a permitted type", plain ? 1 : 0, 1);
        }
    }
}
