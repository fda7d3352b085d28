import java.lang.reflect.Field;
import java.lang.reflect.Method;
import java.lang.reflect.Modifier;
import java.util.Arrays;
import java.util.Set;
import java.util.TreeSet;

/** The public face is the document's, and there is nothing else to be seen. */
public final class FaceTest {
    private static final String BOUNDS = "IndexOutOfBoundsException";
    private static final String ARGUMENT = "IllegalArgumentException";
    private static final String STATE = "IllegalStateException";
    private static final String UNSUPPORTED = "UnsupportedOperationException";

    public static void main(String[] args) {
        Checks checks = new Checks();
        checks.due("NONE", -1, () -> ShapeSearch.NONE);
        checks.due("modifiers", Modifier.PUBLIC | Modifier.FINAL, () -> ShapeSearch.class.getModifiers());
        checks.due("methods", methodsDue(), FaceTest::methodsSeen);
        checks.due("fields", Set.of("NONE int 25"), FaceTest::fieldsSeen);
        checks.due("constructors", "[public ShapeSearch()]",
                () -> Arrays.toString(ShapeSearch.class.getDeclaredConstructors()));
        checks.due("two objects share nothing", 0, FaceTest::termsOfAnother);
        checks.end("FaceTest");
    }

    private static Set<String> methodsDue() {
        return new TreeSet<>(Set.of(
                line("int name int int int int", BOUNDS, ARGUMENT, STATE),
                line("int leaf int boolean", BOUNDS, STATE),
                line("int term int int"),
                line("int state int int int int int", BOUNDS, ARGUMENT, STATE),
                line("boolean forget"),
                line("int find int", BOUNDS),
                line("int fit int", BOUNDS, ARGUMENT),
                line("int rank int", BOUNDS, ARGUMENT),
                line("int hit int int"),
                line("int goal int int", BOUNDS, STATE),
                line("int twin int", BOUNDS),
                line("boolean follows int int", BOUNDS, ARGUMENT, UNSUPPORTED),
                line("int tried int"),
                line("int about int")));
    }

    private static String line(String head, String... thrown) {
        return head + " throws " + new TreeSet<>(Arrays.asList(thrown));
    }

    private static Set<String> methodsSeen() {
        Set<String> seen = new TreeSet<>();
        for (Method method : ShapeSearch.class.getDeclaredMethods()) {
            if (!Modifier.isPrivate(method.getModifiers())) {
                StringBuilder head = new StringBuilder(method.getReturnType().getName());
                head.append(' ').append(method.getName());
                for (Class<?> type : method.getParameterTypes()) {
                    head.append(' ').append(type.getName());
                }
                String[] thrown = Arrays.stream(method.getExceptionTypes())
                        .map(Class::getSimpleName).toArray(String[]::new);
                seen.add(line(head.toString(), thrown));
            }
        }
        return seen;
    }

    private static Set<String> fieldsSeen() {
        Set<String> seen = new TreeSet<>();
        for (Field field : ShapeSearch.class.getDeclaredFields()) {
            if (!Modifier.isPrivate(field.getModifiers())) {
                seen.add(field.getName() + " " + field.getType() + " " + field.getModifiers());
            }
        }
        return seen;
    }

    private static int termsOfAnother() {
        ShapeSearch one = new ShapeSearch();
        ShapeSearch other = new ShapeSearch();
        one.state(-1, -1, -1, -1, one.name(0, -1, -1, -1));
        return other.about(0) + other.about(1) + other.about(2);
    }
}
