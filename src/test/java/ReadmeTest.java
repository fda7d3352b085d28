import java.io.IOException;
import java.lang.reflect.InvocationTargetException;
import java.lang.reflect.Method;
import java.lang.reflect.Modifier;
import java.nio.file.Files;
import java.nio.file.Path;
import java.util.HashMap;
import java.util.Map;
import java.util.Set;
import java.util.TreeSet;
import java.util.regex.Matcher;
import java.util.regex.Pattern;

/**
 * What README.md says of the class: the calls of its example are made as they stand there, and the answers
 * that it names are compared; its table has each call of the face, with the exceptions that this may throw.
 * The path of README.md is the second argument.
 */
public final class ReadmeTest {
    private static final Pattern BLOCK = Pattern.compile("(?ms)^```java\\n(.*?)^```$");
    private static final Pattern REMARK = Pattern.compile("\\s*(//.*)?");
    private static final Pattern OBJECT = Pattern.compile("ShapeSearch x = new ShapeSearch\\(\\);");
    private static final String NAMED = "\\s*// (-?\\d+|true|false|throws \\w+)(: .*)?";
    private static final Pattern CONSTANT = Pattern.compile("int (\\w+) = ShapeSearch\\.NONE;" + NAMED);
    private static final Pattern CALL = Pattern.compile("(?:(int|boolean) (\\w+) = )?x\\.(\\w+)\\((.*?)\\);" + NAMED);
    private static final Pattern ROW = Pattern.compile("(?m)^\\| `(\\w+)\\((.*?)\\)` \\|[^|\\n]*\\|([^|\\n]*)\\|$");
    private static final Pattern THROWN = Pattern.compile("`(\\w+Exception)`: ");

    private final Checks checks = new Checks();
    private final Map<String, Object> values = new HashMap<>();
    private final Map<String, Method> face = face();
    private final Set<String> called = new TreeSet<>();
    private ShapeSearch x = null;

    public static void main(String[] args) throws IOException {
        String readme = Files.readString(Path.of(args.length > 1 ? args[1] : "README.md"));
        ReadmeTest test = new ReadmeTest();
        test.makeExamples(readme);
        test.compareTable(readme);
        test.checks.end("ReadmeTest");
    }

    /** The calls of the face by their names, which are all different. */
    private static Map<String, Method> face() {
        Map<String, Method> all = new HashMap<>();
        for (Method method : ShapeSearch.class.getDeclaredMethods()) {
            if (Modifier.isPublic(method.getModifiers())) {
                all.put(method.getName(), method);
            }
        }
        return all;
    }

    private void makeExamples(String readme) {
        Matcher block = BLOCK.matcher(readme);
        while (block.find()) {
            values.clear();
            x = null;
            block.group(1).lines().forEach(this::make);
        }
        checks.due("the calls that the example makes", new TreeSet<>(face.keySet()), () -> called);
    }

    /** A line is a remark, or makes the object, or is a call whose answer is named; there is no other. */
    private void make(String line) {
        Matcher constant = CONSTANT.matcher(line);
        Matcher call = CALL.matcher(line);
        if (REMARK.matcher(line).matches()) {
            return;
        }
        if (OBJECT.matcher(line).matches()) {
            x = new ShapeSearch();
        } else if (constant.matches()) {
            declare(line, constant.group(1), ShapeSearch.NONE);
            checks.due(line, constant.group(2), () -> "" + ShapeSearch.NONE);
        } else if (call.matches()) {
            makeCall(line, call);
        } else {
            checks.due(line, "a call and its answer", () -> "not understood");
        }
    }

    private void makeCall(String line, Matcher call) {
        Method method = face.get(call.group(3));
        Object answer = answer(method, call.group(4));
        checks.due(line, call.group(5), () -> "" + answer);
        if (method != null) {
            called.add(method.getName());
        }
        if (method != null && call.group(1) != null) {
            checks.due(line + " declares", call.group(1), () -> method.getReturnType().getName());
            declare(line, call.group(2), answer);
        }
    }

    private void declare(String line, String variable, Object value) {
        Object earlier = values.put(variable, value);
        checks.due(line + " declares a new variable", true, () -> earlier == null);
    }

    private Object answer(Method method, String arguments) {
        String[] parts = arguments.isEmpty() ? new String[0] : arguments.split(", ");
        if (method == null || x == null || parts.length != method.getParameterCount()) {
            return "not a call of the face, or without an object";
        }
        Object[] all = new Object[parts.length];
        for (int i = 0; i < parts.length; i++) {
            all[i] = value(parts[i]);
        }
        try {
            return method.invoke(x, all);
        } catch (InvocationTargetException thrown) {
            return "throws " + thrown.getCause().getClass().getSimpleName();
        } catch (IllegalAccessException | IllegalArgumentException wrong) {
            return "not to be called with " + arguments;
        }
    }

    private Object value(String written) {
        if (written.equals("true") || written.equals("false")) {
            return Boolean.valueOf(written);
        }
        return written.matches("-?\\d+") ? Integer.valueOf(written) : values.get(written);
    }

    private void compareTable(String readme) {
        Map<String, String> told = new HashMap<>();
        Matcher row = ROW.matcher(readme);
        while (row.find()) {
            told.put(row.group(1), arity(row.group(2)) + " arguments, throws " + thrown(row.group(3)));
        }
        checks.due("the calls in the table", face.keySet(), told::keySet);
        for (Method method : face.values()) {
            checks.due("the table of " + method.getName(), faceOf(method), () -> told.get(method.getName()));
        }
    }

    private static int arity(String arguments) {
        return arguments.isEmpty() ? 0 : arguments.split(", ").length;
    }

    private static Set<String> thrown(String cell) {
        Set<String> names = new TreeSet<>();
        Matcher exception = THROWN.matcher(cell);
        while (exception.find()) {
            names.add(exception.group(1));
        }
        return names;
    }

    private static String faceOf(Method method) {
        Set<String> names = new TreeSet<>();
        for (Class<?> exception : method.getExceptionTypes()) {
            names.add(exception.getSimpleName());
        }
        return method.getParameterCount() + " arguments, throws " + names;
    }
}
