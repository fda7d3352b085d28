import java.util.List;
import java.util.Set;
import java.util.TreeSet;
import java.util.function.Supplier;

/** The boundary tests: each stands for one sentence of the document, and names it if an answer is not as due. */
final class Boundaries {
    static final String BOUNDS = "throws.IndexOutOfBoundsException";
    static final String ARGUMENT = "throws.IllegalArgumentException";
    static final String STATE = "throws.IllegalStateException";
    static final String UNSUPPORTED = "throws.UnsupportedOperationException";

    interface Use {
        Object on(ShapeSearch x);
    }

    private final Checks checks = new Checks();
    private final Set<String> quoted = new TreeSet<>();
    private String standsFor = "";

    /** Begins the test of a sentence of a promise. */
    void promise(int number, String sentence) {
        begin("Promise " + number, sentence);
        quoted.add("Promise " + number + ": " + sentence);
    }

    /** Begins the test of a sentence of the section "Terms", which the promises' words in capitals lean on. */
    void terms(String sentence) {
        begin("Terms", sentence);
        quoted.add("Terms: " + sentence);
    }

    /** What the answers from here on stand for. */
    void begin(String section, String sentence) {
        standsFor = section + ", \"" + sentence + "\": ";
    }

    Set<String> quoted() {
        return quoted;
    }

    void due(String call, Object due, Checks.Call run) {
        checks.due(standsFor + call, due, run);
    }

    /** Of hit i: what = 0, 1, 2 and so on. */
    void dueHits(ShapeSearch x, String of, int i, int... due) {
        checks.dueHits(x, standsFor + of, i, due);
    }

    /** Of the latest follows(): what = 0, 1, 2. */
    void dueTried(ShapeSearch x, String of, int... due) {
        for (int what = 0; what < due.length; what++) {
            int w = what;
            due(of + ": tried(" + w + ")", due[w], () -> x.tried(w));
        }
    }

    /** A call that throws, each time, and behind which all that the object answers is as if it had not been made. */
    void refused(String call, String thrown, Supplier<ShapeSearch> made, Use use) {
        ShapeSearch x = made.get();
        due(call, thrown, () -> use.on(x));
        due(call + " once more", thrown, () -> use.on(x));
        List<String> before = Answers.of(made);
        due(call + ", and all answers afterwards", before, () -> Answers.of(() -> refusedOnce(made, use)));
    }

    private static ShapeSearch refusedOnce(Supplier<ShapeSearch> made, Use use) {
        ShapeSearch x = made.get();
        Checks.answerOf(() -> use.on(x));
        return x;
    }

    void end(String test) {
        checks.end(test);
    }
}
