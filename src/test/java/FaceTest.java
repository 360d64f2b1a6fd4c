import java.lang.reflect.Constructor;
import java.lang.reflect.Field;
import java.lang.reflect.Member;
import java.lang.reflect.Method;
import java.lang.reflect.Modifier;
import java.util.Arrays;
import java.util.Set;
import java.util.TreeSet;

/** The public face, and nothing besides. */
public final class FaceTest {
    private static final Set<String> FACE = Set.of("feed", "put", "cut", "take", "run", "mark", "last", "count");

    public static void main(String[] args) {
        constants();
        members();
        classesInside();
        Checks.finish();
    }

    private static void constants() {
        int[] constants = {CharOutlines.NONE, CharOutlines.SHELF, CharOutlines.SHORT, CharOutlines.STACK,
            CharOutlines.CODE, CharOutlines.HINTS, CharOutlines.MOVE, CharOutlines.CALL, CharOutlines.DEEP,
            CharOutlines.ZERO, CharOutlines.FULL, CharOutlines.WORK};
        for (int i = 0; i < constants.length; i++) {
            Checks.due("constant " + i, constants[i], -1 - i);
        }
    }

    private static void members() {
        Class<?> face = CharOutlines.class;
        Checks.due("class", Modifier.toString(face.getModifiers()), "public final");
        Set<String> methods = new TreeSet<>();
        for (Method method : face.getDeclaredMethods()) {
            if (seen(method)) {
                methods.add(method.getReturnType() + " " + method.getName()
                        + Arrays.toString(method.getParameterTypes())
                        + Arrays.toString(method.getExceptionTypes()).replace("class java.lang.", ""));
            }
        }
        Checks.due("methods", methods.toString(), new TreeSet<>(Set.of(
                "int feed[int, int, int, int, int][]",
                "int put[int, int][IndexOutOfBoundsException, IllegalArgumentException]",
                "int cut[int][IllegalArgumentException]",
                "int take[int][IllegalArgumentException]",
                "int run[int][IndexOutOfBoundsException]",
                "int mark[int, int][IndexOutOfBoundsException]",
                "int last[int][]",
                "int count[int][IllegalArgumentException]")).toString());
        Set<String> fields = new TreeSet<>();
        for (Field field : face.getDeclaredFields()) {
            if (seen(field)) {
                fields.add(field.getName());
            }
        }
        Checks.due("fields", fields.toString(),
                "[CALL, CODE, DEEP, FULL, HINTS, MOVE, NONE, SHELF, SHORT, STACK, WORK, ZERO]");
        Constructor<?>[] constructors = face.getDeclaredConstructors();
        Checks.due("constructors", constructors.length, 1);
        Checks.due("constructor", constructors[0].toString(), "public CharOutlines()");
    }

    /** No method inside bears the name of one of the face, and no class has more fields than it may. */
    private static void classesInside() {
        Class<?>[] inside = CharOutlines.class.getDeclaredClasses();
        Checks.due("at most 12 classes", inside.length <= 11 ? 1 : 0, 1);
        for (Class<?> one : inside) {
            Checks.due(one + " is static", Modifier.isStatic(one.getModifiers()) ? 1 : 0, 1);
            Checks.due(one + " is hidden", Modifier.isPrivate(one.getModifiers()) ? 1 : 0, 1);
            for (Method method : one.getDeclaredMethods()) {
                Checks.due(method + " has a name of the face", FACE.contains(method.getName()) ? 1 : 0, 0);
                Checks.due(method + " has too many parameters", method.getParameterCount() > 7 ? 1 : 0, 0);
            }
            long fields = Arrays.stream(one.getDeclaredFields())
                    .filter(field -> !Modifier.isStatic(field.getModifiers())).count();
            Checks.due(one + " has too many fields", fields > 20 ? 1 : 0, 0);
        }
    }

    private static boolean seen(Member member) {
        return !Modifier.isPrivate(member.getModifiers());
    }
}
