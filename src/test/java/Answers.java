import java.util.ArrayList;
import java.util.List;
import java.util.function.Supplier;

/**
 * All that an object can be asked, and what it makes next. Each group of questions goes to an object
 * of its own: some of them change it, and none may have more than 512 calls.
 */
final class Answers {
    private static final int NONE = ShapeSearch.NONE;

    private final ShapeSearch x;
    private final StringBuilder told = new StringBuilder();

    private Answers(ShapeSearch x, String group) {
        this.x = x;
        told.append(group).append(':');
    }

    static List<String> of(Supplier<ShapeSearch> made) {
        List<String> all = new ArrayList<>();
        all.add(new Answers(made.get(), "counts").counts());
        for (int what = 0; what < 6; what += 2) {
            all.add(new Answers(made.get(), "terms " + what).terms(what));
            all.add(new Answers(made.get(), "hits " + 2 * what).hits(2 * what));
        }
        all.add(new Answers(made.get(), "twins").twins());
        all.add(new Answers(made.get(), "goals").goals());
        all.add(new Answers(made.get(), "names").names());
        all.add(new Answers(made.get(), "leaves").leaves());
        all.add(new Answers(made.get(), "statements").statements());
        all.add(new Answers(made.get(), "searches").searches());
        all.add(new Answers(made.get(), "follows").follows());
        return all;
    }

    private void ask(Checks.Call call) {
        told.append(' ').append(Checks.answerOf(call));
    }

    private String counts() {
        for (int what = -1; what < 5; what++) {
            int w = what;
            ask(() -> x.about(w));
            ask(() -> x.tried(w));
        }
        return told.toString();
    }

    private String terms(int what) {
        for (int i = -1; i < x.about(0) + 1; i++) {
            int t = i;
            ask(() -> x.term(t, what));
            ask(() -> x.term(t, what + 1));
        }
        return told.toString();
    }

    private String hits(int first) {
        for (int i = -1; i < x.about(3) + 1; i++) {
            for (int what = first; what < first + 4; what++) {
                int h = i;
                int w = what;
                ask(() -> x.hit(h, w));
            }
        }
        return told.toString();
    }

    private String twins() {
        for (int i = -1; i < x.about(1) + 1; i++) {
            int s = i;
            ask(() -> x.twin(s));
        }
        return told.toString();
    }

    private String goals() {
        for (int i = -1; i < x.about(3) + 1; i++) {
            for (int k = -1; k < 5; k++) {
                int h = i;
                int p = k;
                ask(() -> x.goal(h, p));
            }
        }
        ask(() -> x.about(0));
        return told.toString();
    }

    /** With how many places each name goes, and the numbers of what is made. */
    private String names() {
        for (int n = -1; n < 31; n++) {
            int name = n;
            ask(() -> x.name(name, NONE, NONE, NONE));
            ask(() -> x.name(name, 0, NONE, NONE));
            ask(() -> x.name(name, 0, 0, NONE));
            ask(() -> x.name(name, 0, 0, 0));
        }
        ask(() -> x.about(2));
        return told.toString();
    }

    private String leaves() {
        for (int i = -1; i < 9; i++) {
            int which = i;
            ask(() -> x.leaf(which, false));
            ask(() -> x.leaf(which, true));
        }
        ask(() -> x.about(0));
        return told.toString();
    }

    private String statements() {
        ask(() -> x.state(NONE, NONE, NONE, NONE, 0));
        ask(() -> x.state(0, 0, NONE, NONE, 1));
        for (int s = x.about(1); s >= 0; s--) {
            ask(() -> x.find(0));
            ask(() -> x.hit(x.about(3) - 1, 0));
            ask(() -> x.forget());
        }
        return told.toString();
    }

    private String searches() {
        for (int i = 0; i < Math.min(20, x.about(0)); i++) {
            int t = i;
            ask(() -> x.find(t));
            ask(() -> x.hit(0, 4));
            ask(() -> x.fit(t));
            ask(() -> x.hit(0, 5));
            ask(() -> x.rank(t));
            ask(() -> x.hit(0, 1));
        }
        return told.toString();
    }

    private String follows() {
        for (int i = 0; i < Math.min(20, x.about(0)); i++) {
            int t = i;
            ask(() -> x.follows(t, 4));
            ask(() -> x.tried(0));
            ask(() -> x.tried(1));
            ask(() -> x.tried(2));
        }
        ask(() -> x.about(0));
        return told.toString();
    }
}
