import java.lang.reflect.Constructor;
import java.lang.reflect.Field;
import java.lang.reflect.Method;
import java.lang.reflect.Modifier;
import java.util.Arrays;
import java.util.HashSet;
import java.util.Set;
import java.util.TreeSet;

/** The public face, as the document writes it, and nothing else that can be seen. */
final class FaceTest {
    private static final String[] FACE = {
        "int coder() UnsupportedOperationException",
        "int picture() UnsupportedOperationException",
        "int point(int, int, int, int) IndexOutOfBoundsException IllegalArgumentException"
            + " IllegalStateException UnsupportedOperationException",
        "int fails(int, int) IndexOutOfBoundsException IllegalStateException",
        "int failed()",
        "int failing(int, int) IndexOutOfBoundsException IllegalArgumentException",
        "int least(int, int) IndexOutOfBoundsException IllegalArgumentException",
        "long sum(int) IndexOutOfBoundsException",
        "long mean(int, boolean) IndexOutOfBoundsException IllegalStateException",
        "int rank(int) IndexOutOfBoundsException IllegalStateException",
        "int hull(int, int) IndexOutOfBoundsException",
        "int onHull(int, int, int, int) IndexOutOfBoundsException IllegalArgumentException",
        "long slope(int, int, int, boolean) IndexOutOfBoundsException",
        "long signs(int, int, int) IndexOutOfBoundsException IllegalArgumentException",
        "int draws(int, int, long, int) IndexOutOfBoundsException IllegalArgumentException"
            + " IllegalStateException",
        "int fill(long)",
        "int text()",
        "int charAt(int) IndexOutOfBoundsException",
        "int told(int)",
        "void clear()",
    };

    private static String told(Method method) {
        StringBuilder said = new StringBuilder();
        said.append(method.getReturnType().getSimpleName()).append(' ').append(method.getName());
        String types = Arrays.toString(
            Arrays.stream(method.getParameterTypes()).map(Class::getSimpleName).toArray());
        said.append('(').append(types, 1, types.length() - 1).append(')');
        for (Class<?> thrown : method.getExceptionTypes()) {
            said.append(' ').append(thrown.getSimpleName());
        }
        return said.toString();
    }

    public static void main(String[] args) {
        Check.same("the class", Modifier.toString(CoderTables.class.getModifiers()), "public final");
        Check.is("NONE", CoderTables.NONE, -1);
        Set<String> open = new TreeSet<>();
        Set<String> openNames = new HashSet<>();
        for (Method method : CoderTables.class.getDeclaredMethods()) {
            if (!Modifier.isPrivate(method.getModifiers())) {
                open.add(told(method));
                openNames.add(method.getName());
                Check.same("open " + method, Modifier.toString(method.getModifiers()), "public");
            }
        }
        Check.same("methods", open.toString(), new TreeSet<>(Arrays.asList(FACE)).toString());
        for (Method method : CoderTables.class.getDeclaredMethods()) {
            if (Modifier.isPrivate(method.getModifiers())) {
                Check.is("own name of " + method, openNames.contains(method.getName()) ? 1 : 0, 0);
            }
        }
        Constructor<?>[] made = CoderTables.class.getDeclaredConstructors();
        Check.is("constructors", made.length, 1);
        Check.same("the constructor", Modifier.toString(made[0].getModifiers()), "public");
        Check.is("its parameters", made[0].getParameterCount(), 0);
        Check.is("what it throws", made[0].getExceptionTypes().length, 0);
        Check.same("the class above it", CoderTables.class.getSuperclass().getSimpleName(), "Object");
        Check.is("its interfaces", CoderTables.class.getInterfaces().length, 0);
        for (Field field : CoderTables.class.getDeclaredFields()) {
            if (field.getName().equals("NONE")) {
                Check.same("NONE", field.toString(), "public static final int CoderTables.NONE");
            } else {
                Check.is("private " + field, Modifier.isPrivate(field.getModifiers()) ? 1 : 0, 1);
            }
            if (Modifier.isStatic(field.getModifiers())) {
                Check.is("final " + field, Modifier.isFinal(field.getModifiers()) ? 1 : 0, 1);
            }
        }
        Check.end();
    }
}
