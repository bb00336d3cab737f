import java.io.IOException;
import java.lang.reflect.InvocationTargetException;
import java.lang.reflect.Method;
import java.nio.file.Files;
import java.nio.file.Path;
import java.util.HashMap;
import java.util.Map;
import java.util.Set;
import java.util.TreeSet;
import java.util.regex.Matcher;
import java.util.regex.Pattern;

/**
 * The calls that README.md shows in its Java blocks, made as they stand there, with the answers that
 * it tells for them: a number, or the name of what is thrown, behind "//" and before ": words".
 */
final class ReadmeTest {
    private static final Path README = Path.of("README.md");
    private static final Pattern OBJECT = Pattern.compile("CoderTables (\\w+) = new CoderTables\\(\\);");
    private static final Pattern CALL =
        Pattern.compile("(?:(int|long) (\\w+) = )?(\\w+)\\.(\\w+)\\(([^()]*)\\);(?:\\s*// (.*))?");
    private static final Pattern ANSWER = Pattern.compile("(-?\\d+|\\w+Exception)(?:: (.*))?");
    private static final Pattern TEXT = Pattern.compile("\"(.*)\"");

    private final Map<String, CoderTables> objects = new HashMap<>();
    private final Map<String, Long> numbers = new HashMap<>();
    private final Set<String> shown = new TreeSet<>();

    public static void main(String[] args) throws IOException, ReflectiveOperationException {
        ReadmeTest test = new ReadmeTest();
        boolean inside = false;
        for (String line : Files.readAllLines(README)) {
            if (line.startsWith("```")) {
                inside = line.equals("```java");
            } else if (inside && !line.isBlank()) {
                Check.says(line);
                test.line(line.strip());
            }
        }
        test.everyCallIsShown();
        Check.end();
    }

    private void line(String line) throws ReflectiveOperationException {
        Matcher object = OBJECT.matcher(line);
        if (object.matches()) {
            objects.put(object.group(1), new CoderTables());
            return;
        }
        Matcher call = CALL.matcher(line);
        if (!call.matches() || !objects.containsKey(call.group(3))) {
            Check.same("README.md", "a line that is no call of an object", "a call");
            return;
        }
        make(call);
    }

    private void make(Matcher call) throws ReflectiveOperationException {
        CoderTables x = objects.get(call.group(3));
        Method method = methodOf(call.group(4));
        if (method == null) {
            Check.same(call.group(4), "no such call", "a call of the document's face");
            return;
        }
        shown.add(method.getName());
        String[] given = call.group(5).isBlank() ? new String[0] : call.group(5).split(",\\s*");
        String got = answer(x, method, argumentsOf(method, given));
        String type = method.getReturnType().getSimpleName();
        if (type.equals("void")) {
            Check.same(method.getName(), got, "null");
            return;
        }
        Matcher told = ANSWER.matcher(call.group(6) == null ? "" : call.group(6));
        Check.same(method.getName(), got, told.matches() ? told.group(1) : "not told");
        if (call.group(1) != null) {
            Check.same("type of " + call.group(2), call.group(1), type);
            numbers.put(call.group(2), Long.valueOf(got));
        }
        if (method.getName().equals("text")) {
            textIsTold(x, told.matches() && told.group(2) != null ? told.group(2) : "");
        }
    }

    private static Method methodOf(String name) {
        for (Method method : CoderTables.class.getMethods()) {
            if (method.getDeclaringClass() == CoderTables.class && method.getName().equals(name)) {
                return method;
            }
        }
        return null;
    }

    private Object[] argumentsOf(Method method, String[] given) {
        Class<?>[] types = method.getParameterTypes();
        Check.is("arguments of " + method.getName(), given.length, types.length);
        Object[] arguments = new Object[types.length];
        for (int k = 0; k < types.length; k++) {
            if (types[k] == boolean.class) {
                arguments[k] = Boolean.valueOf(given[k]);
            } else if (types[k] == int.class) {
                arguments[k] = (int) number(given[k]);
            } else {
                arguments[k] = number(given[k]);
            }
        }
        return arguments;
    }

    private long number(String word) {
        return numbers.containsKey(word) ? numbers.get(word) : Long.parseLong(word);
    }

    private static String answer(CoderTables x, Method method, Object[] arguments)
            throws IllegalAccessException {
        try {
            return String.valueOf(method.invoke(x, arguments));
        } catch (InvocationTargetException e) {
            return e.getCause().getClass().getSimpleName();
        }
    }

    private static void textIsTold(CoderTables x, String words) {
        Matcher quoted = TEXT.matcher(words);
        String due = quoted.find() ? quoted.group(1).replace("\\n", "\n") : "not told";
        StringBuilder read = new StringBuilder();
        for (int i = 0; i < due.length(); i++) {
            read.append((char) x.charAt(i));
        }
        Check.same("the text", read.toString(), due);
    }

    private void everyCallIsShown() {
        Check.says("README.md shows every call of the face");
        Set<String> face = new TreeSet<>();
        for (Method method : CoderTables.class.getMethods()) {
            if (method.getDeclaringClass() == CoderTables.class) {
                face.add(method.getName());
            }
        }
        Check.same("calls", shown.toString(), face.toString());
    }
}
