import java.lang.reflect.Constructor;
import java.lang.reflect.Field;
import java.lang.reflect.Method;
import java.lang.reflect.Modifier;
import java.util.Arrays;
import java.util.List;
import java.util.Set;
import java.util.TreeSet;

/** The public face, and what of LANGUAGE.md the compiled class shows (rules 1, 5 and 11). */
public final class FaceTest {
    private static final Set<String> FACE = new TreeSet<>(List.of(
            "int type(long) IllegalArgumentException IllegalStateException",
            "int compile(int) IllegalArgumentException",
            "void tape(long, int) IllegalArgumentException",
            "int run(int, int, int) IllegalArgumentException NoSuchElementException IllegalStateException ArithmeticException IndexOutOfBoundsException",
            "double variable(int) IllegalArgumentException",
            "void set(int, double) IllegalArgumentException",
            "double written(int) NoSuchElementException",
            "int count(int)"));

    public static void main(String[] args) {
        Class<?> desk = PascalDesk.class;
        holds("public and final", Modifier.isPublic(desk.getModifiers()) && Modifier.isFinal(desk.getModifiers()));
        holds("without a package", desk.getPackageName().isEmpty());
        methods(desk);
        constructors(desk);
        Class<?>[] inside = desk.getDeclaredClasses();
        holds("at most twelve classes", inside.length < 12);
        nested(desk);
        for (Class<?> one : inside) {
            int modifiers = one.getModifiers();
            holds(one + " is static", Modifier.isStatic(modifiers));
            holds(one + " is not public", !Modifier.isPublic(modifiers) && !Modifier.isProtected(modifiers));
            nested(one);
        }
        Desk.end();
    }

    private static void holds(String what, boolean so) {
        Desk.due(what, so ? 1 : 0, 1);
    }

    private static void methods(Class<?> desk) {
        Set<String> found = new TreeSet<>();
        for (Method one : desk.getDeclaredMethods()) {
            if (Modifier.isPublic(one.getModifiers())) {
                found.add(told(one));
            } else {
                holds(one + " is private", Modifier.isPrivate(one.getModifiers()));
            }
        }
        holds("the face is " + found, found.equals(FACE));
    }

    private static String told(Method one) {
        StringBuilder told = new StringBuilder(one.getReturnType() + " " + one.getName() + "(");
        told.append(String.join(", ", Arrays.stream(one.getParameterTypes()).map(Class::getName).toList())).append(")");
        for (Class<?> kind : one.getExceptionTypes()) {
            told.append(' ').append(kind.getSimpleName());
        }
        return told.toString();
    }

    private static void constructors(Class<?> desk) {
        Constructor<?>[] all = desk.getDeclaredConstructors();
        holds("one constructor", all.length == 1);
        holds("a public one without arguments", Modifier.isPublic(all[0].getModifiers()) && all[0].getParameterCount() == 0);
        for (Field one : desk.getDeclaredFields()) {
            holds(one + " is private", Modifier.isPrivate(one.getModifiers()));
        }
    }

    private static void nested(Class<?> one) {
        Set<Class<?>> constants = Set.of(int.class, long.class, boolean.class, char.class, String.class,
                int[].class, long[].class, char[].class, byte[].class);
        int fields = 0;
        for (Field field : one.getDeclaredFields()) {
            if (Modifier.isStatic(field.getModifiers())) {
                holds(field + " is a constant", Modifier.isFinal(field.getModifiers()) && constants.contains(field.getType()));
            } else {
                fields++;
            }
        }
        holds(one + " has at most twenty fields", fields <= 20);
        for (Method method : one.getDeclaredMethods()) {
            holds(method + " has at most seven parameters", method.getParameterCount() <= 7);
            boolean face = one == PascalDesk.class && Modifier.isPublic(method.getModifiers());
            holds(method + " bears no name of the face", face || FACE.stream().noneMatch(f -> f.contains(" " + method.getName() + "(")));
        }
    }
}
