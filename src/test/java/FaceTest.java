import java.lang.reflect.Constructor;
import java.lang.reflect.Field;
import java.lang.reflect.Member;
import java.lang.reflect.Method;
import java.lang.reflect.Modifier;
import java.util.Arrays;
import java.util.Set;
import java.util.TreeSet;

/** The public face: the document's members with their types, and no other that is not private. */
public final class FaceTest {
    private static final String[] FACE = {
        "int BAD", "int NO_OBJECT", "int ENDED", "int CODE", "int TIRED", "int STACK", "int SORT",
        "int MEMORY", "int MISSING", "int DEEP", "ManagedRuntime[]",
        "boolean code[int, int, int]", "boolean above[int, int]", "boolean method[int, int, int]",
        "int run[int, int]", "int givenSort[]", "int given[]", "int steps[]", "int made[]",
        "int printed[]", "int output[int]", "int sort[int, int]", "int number[int, int]",
        "int needed[]", "boolean clear[int]", "boolean level[int]",
    };

    public static void main(String[] args) {
        Due due = new Due();
        Set<String> seen = new TreeSet<>();
        for (Field f : ManagedRuntime.class.getDeclaredFields()) {
            if (isOpen(due, f)) {
                seen.add(f.getType() + " " + f.getName());
                due.yes(f.getName() + " is a constant", Modifier.isStatic(f.getModifiers()) && Modifier.isFinal(f.getModifiers()));
            }
        }
        for (Method m : ManagedRuntime.class.getDeclaredMethods()) {
            if (isOpen(due, m)) {
                seen.add(m.getReturnType() + " " + m.getName() + Arrays.toString(m.getParameterTypes()));
                due.no(m.getName() + " is static", Modifier.isStatic(m.getModifiers()));
            }
        }
        for (Constructor<?> c : ManagedRuntime.class.getDeclaredConstructors()) {
            if (isOpen(due, c)) {
                seen.add("ManagedRuntime" + Arrays.toString(c.getParameterTypes()));
            }
        }
        Set<String> wanted = new TreeSet<>(Arrays.asList(FACE));
        due.yes("the face is " + wanted + " and not " + seen, seen.equals(wanted));
        due.is("modifiers of the class", ManagedRuntime.class.getModifiers(), Modifier.PUBLIC | Modifier.FINAL);
        constants(due);
        due.end();
    }

    private static boolean isOpen(Due due, Member m) {
        boolean open = Modifier.isPublic(m.getModifiers());
        due.yes(m.getName() + " is public or private", open || Modifier.isPrivate(m.getModifiers()));
        return open;
    }

    private static void constants(Due due) {
        due.is("BAD", ManagedRuntime.BAD, -1);
        due.is("NO_OBJECT", ManagedRuntime.NO_OBJECT, -2);
        due.is("ENDED", ManagedRuntime.ENDED, 0);
        due.is("CODE", ManagedRuntime.CODE, 1);
        due.is("TIRED", ManagedRuntime.TIRED, 2);
        due.is("STACK", ManagedRuntime.STACK, 3);
        due.is("SORT", ManagedRuntime.SORT, 4);
        due.is("MEMORY", ManagedRuntime.MEMORY, 5);
        due.is("MISSING", ManagedRuntime.MISSING, 6);
        due.is("DEEP", ManagedRuntime.DEEP, 7);
    }
}
