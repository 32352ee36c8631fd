import java.lang.reflect.Constructor;
import java.lang.reflect.Field;
import java.lang.reflect.Method;
import java.lang.reflect.Modifier;
import java.util.Arrays;
import java.util.Set;
import java.util.TreeSet;

/** The public face is the document's and nothing else is visible outside the class. */
public final class FaceTest {
    private static final Set<String> FACE = Set.of(
            "int CAPACITY", "int BLOCK_CAPACITY", "int SOURCE", "int BLOCK", "int OUTPUT", "int FULL",
            "int BAD_ARGUMENT", "int SHORT", "int BAD_FIELD", "int BAD_EXTENSION", "int OVERFLOW", "int BAD_END",
            "int BAD_OFFSET", "int DIFFERENT", "new [int, int, int, int]",
            "int put [int]", "int repeat [int, int]", "int echo [int, int]", "int cut [int, int]", "int adopt []",
            "int encode []", "int surplus []", "int feed [int]", "int poke [int, int]", "int decode []",
            "int length [int]", "int cellAt [int, int]");

    public static void main(String[] args) {
        Set<String> seen = new TreeSet<>();
        for (Field f : OptimalParser.class.getDeclaredFields()) {
            if (!Modifier.isPrivate(f.getModifiers())) {
                seen.add(f.getType() + " " + f.getName());
            }
        }
        for (Constructor<?> c : OptimalParser.class.getDeclaredConstructors()) {
            seen.add("new " + Arrays.toString(c.getParameterTypes()));
        }
        for (Method m : OptimalParser.class.getDeclaredMethods()) {
            if (!Modifier.isPrivate(m.getModifiers())) {
                seen.add(m.getReturnType() + " " + m.getName() + " " + Arrays.toString(m.getParameterTypes()));
            }
        }
        for (String member : seen) {
            Check.due("the document has " + member, FACE.contains(member) ? 1 : 0, 1);
        }
        for (String member : FACE) {
            Check.due("the class has " + member, seen.contains(member) ? 1 : 0, 1);
        }
        int modifiers = OptimalParser.class.getModifiers();
        Check.due("public and final", Modifier.isPublic(modifiers) && Modifier.isFinal(modifiers) ? 1 : 0, 1);
        Check.end("FaceTest");
    }
}
