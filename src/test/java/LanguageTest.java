import java.io.IOException;
import java.lang.reflect.Field;
import java.lang.reflect.Method;
import java.lang.reflect.Modifier;
import java.nio.file.Files;
import java.nio.file.Path;
import java.util.ArrayList;
import java.util.Arrays;
import java.util.List;
import java.util.Set;
import java.util.regex.Matcher;
import java.util.regex.Pattern;

/** What of ../shared/LANGUAGE.md can be seen in the text of the class, or by reflection. */
final class LanguageTest {
    private static final Path SOURCE = Path.of("src/main/java/CoderTables.java");
    private static final Pattern NOT_CODE =
        Pattern.compile("/\\*.*?\\*/|//[^\n]*|\"(?:[^\"\\\\]|\\\\.)*\"|'(?:[^'\\\\]|\\\\.)*'", Pattern.DOTALL);
    private static final String[] WORDS = {"import", "package", "try", "catch", "finally", "synchronized",
        "assert", "native", "volatile", "transient", "strictfp", "double", "float", "protected", "System",
        "Thread", "Random", "Object", "equals", "hashCode", "toString", "getMessage"};
    private static final Set<String> THROWN = Set.of("IllegalStateException", "IllegalArgumentException",
        "IndexOutOfBoundsException", "UnsupportedOperationException");
    private static final int MAX_METHOD_LINES = 60;

    public static void main(String[] args) throws IOException {
        String code = NOT_CODE.matcher(Files.readString(SOURCE)).replaceAll(found ->
            found.group().startsWith("\"") ? "\"\"" : found.group().startsWith("'") ? "' '" : "");
        words(code);
        thrown(code);
        methodLines(code);
        List<Class<?>> classes = new ArrayList<>(Arrays.asList(CoderTables.class.getDeclaredClasses()));
        for (Class<?> inside : classes) {
            Check.says("Rule 1: the classes inside it are private or package-visible and static");
            Check.is("open " + inside, inside.getModifiers() & (Modifier.PUBLIC | Modifier.PROTECTED), 0);
            Check.is("static " + inside, Modifier.isStatic(inside.getModifiers()) ? 1 : 0, 1);
        }
        classes.add(CoderTables.class);
        Check.says("Rule 11: at most some twelve classes");
        Check.is("many classes", classes.size() <= 12 ? 0 : 1, 0);
        for (Class<?> each : classes) {
            fields(each);
            parameters(each);
        }
        Check.end();
    }

    private static void words(String code) {
        Check.says("Rules 2, 3, 4, 6, 13: what the class does without");
        for (String word : WORDS) {
            Check.is(word, Pattern.compile("\\b" + word + "\\b").matcher(code).find() ? 1 : 0, 0);
        }
        for (String sign : new String[] {"->", "::", "Exact", "@", "\"\" +", "+ \"\"", "static {"}) {
            Check.is(sign, code.contains(sign) ? 1 : 0, 0);
        }
    }

    private static void thrown(String code) {
        Check.says("Rule 6: throw new E(\"a written text\")");
        Matcher form = Pattern.compile("\\bthrow new (\\w+)\\(\"\"\\);").matcher(code);
        int formed = 0;
        while (form.find()) {
            formed++;
            Check.is(form.group(1), THROWN.contains(form.group(1)) ? 1 : 0, 1);
        }
        Check.is("throws of that form", formed, code.split("\\bthrow\\b", -1).length - 1);
    }

    private static void methodLines(String code) {
        Check.says("Rule 11: Methods stay short (some sixty lines)");
        int begin = 0;
        String[] lines = code.split("\n", -1);
        for (int k = 0; k < lines.length; k++) {
            if (Pattern.matches(" {4}( {4})?(public|private) .*\\(.*", lines[k])) {
                begin = k;
            }
            if (Pattern.matches(" {4}( {4})?\\}", lines[k])) {
                Check.is("long before line " + k, k - begin <= MAX_METHOD_LINES ? 0 : 1, 0);
            }
        }
    }

    private static void fields(Class<?> each) {
        int own = 0;
        for (Field field : each.getDeclaredFields()) {
            if (Modifier.isStatic(field.getModifiers())) {
                Check.says("Rule 5: Static fields are final");
                Check.is(field.toString(), Modifier.isFinal(field.getModifiers()) ? 1 : 0, 1);
                Check.is("an array " + field, field.getType().isArray() ? 1 : 0, 0);
            } else {
                own++;
            }
        }
        Check.says("Rule 11: a class some twenty fields beside its constants");
        Check.is("many fields of " + each, own <= 20 ? 0 : 1, 0);
    }

    private static void parameters(Class<?> each) {
        Check.says("Rule 11: A method takes at most seven parameters.");
        for (Method method : each.getDeclaredMethods()) {
            Check.is("many parameters of " + method, method.getParameterCount() <= 7 ? 0 : 1, 0);
        }
    }
}
