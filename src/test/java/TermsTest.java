/** Promises 1 to 4 and 15: a new object, name, leaf, term, about. */
public final class TermsTest {
    private static final int NONE = ShapeSearch.NONE;
    private static final String BOUNDS = "throws.IndexOutOfBoundsException";
    private static final String ARGUMENT = "throws.IllegalArgumentException";
    private static final String STATE = "throws.IllegalStateException";
    private static final Checks CHECKS = new Checks();

    public static void main(String[] args) {
        newObject();
        names();
        namesRefused();
        namesBeforeNone();
        leaves();
        termParts();
        sizes();
        hundredTerms();
        allNames();
        aboutCounts();
        CHECKS.end("TermsTest");
    }

    private static void newObject() {
        ShapeSearch x = new ShapeSearch();
        for (int what = 0; what < 4; what++) {
            int w = what;
            CHECKS.due("new: about(" + w + ")", 0, () -> x.about(w));
        }
        CHECKS.due("new: term(0, 0)", NONE, () -> x.term(0, 0));
        CHECKS.due("new: term(0, 5)", NONE, () -> x.term(0, 5));
        CHECKS.due("new: find(0)", BOUNDS, () -> x.find(0));
        CHECKS.due("new: fit(0)", BOUNDS, () -> x.fit(0));
        CHECKS.due("new: rank(0)", BOUNDS, () -> x.rank(0));
        CHECKS.due("new: follows(0, 1)", BOUNDS, () -> x.follows(0, 1));
        CHECKS.due("new: twin(0)", BOUNDS, () -> x.twin(0));
        CHECKS.due("new: goal(0, 0)", BOUNDS, () -> x.goal(0, 0));
        CHECKS.due("new: hit(0, 0)", NONE, () -> x.hit(0, 0));
        CHECKS.due("new: forget()", false, () -> x.forget());
        CHECKS.due("new: tried(0)", 0, () -> x.tried(0));
        CHECKS.due("new: tried(1)", 0, () -> x.tried(1));
        CHECKS.due("new: tried(2)", NONE, () -> x.tried(2));
    }

    private static void names() {
        ShapeSearch x = new ShapeSearch();
        CHECKS.due("name a", 0, () -> x.name(0, NONE, NONE, NONE));
        CHECKS.due("name a again", 0, () -> x.name(0, NONE, NONE, NONE));
        CHECKS.due("name f(a)", 1, () -> x.name(1, 0, NONE, NONE));
        CHECKS.due("name g(a, f(a))", 2, () -> x.name(2, 0, 1, NONE));
        CHECKS.due("name g(f(a), a)", 3, () -> x.name(2, 1, 0, NONE));
        CHECKS.due("name h(a, f(a), g)", 4, () -> x.name(3, 0, 1, 2));
        CHECKS.due("name h(a, g, f(a))", 5, () -> x.name(3, 0, 2, 1));
        CHECKS.due("name g(a, f(a)) again", 2, () -> x.name(2, 0, 1, NONE));
        CHECKS.due("name h again", 4, () -> x.name(3, 0, 1, 2));
        CHECKS.due("the last name", 6, () -> x.name(29, NONE, NONE, NONE));
        CHECKS.due("seven terms", 7, () -> x.about(0));
    }

    private static void namesRefused() {
        ShapeSearch x = new ShapeSearch();
        x.name(0, NONE, NONE, NONE);
        x.name(1, 0, NONE, NONE);
        CHECKS.due("name 30", BOUNDS, () -> x.name(30, NONE, NONE, NONE));
        CHECKS.due("name -1", BOUNDS, () -> x.name(-1, NONE, NONE, NONE));
        CHECKS.due("name of the least int", BOUNDS, () -> x.name(Integer.MIN_VALUE, NONE, NONE, NONE));
        CHECKS.due("first term too great", BOUNDS, () -> x.name(5, 2, NONE, NONE));
        CHECKS.due("second term too great", BOUNDS, () -> x.name(5, 0, 2, NONE));
        CHECKS.due("third term too great", BOUNDS, () -> x.name(5, 0, 1, 2));
        CHECKS.due("term -2", BOUNDS, () -> x.name(5, -2, NONE, NONE));
        CHECKS.due("second term -2", BOUNDS, () -> x.name(5, 0, -2, NONE));
        CHECKS.due("third term least int", BOUNDS, () -> x.name(5, 0, 0, Integer.MIN_VALUE));
        CHECKS.due("no term ahead of more or fewer", BOUNDS, () -> x.name(0, 9, NONE, NONE));
        CHECKS.due("more than when used first", ARGUMENT, () -> x.name(0, 0, NONE, NONE));
        CHECKS.due("fewer than when used first", ARGUMENT, () -> x.name(1, NONE, NONE, NONE));
        CHECKS.due("two in stead of one", ARGUMENT, () -> x.name(1, 0, 0, NONE));
        CHECKS.due("three in stead of one", ARGUMENT, () -> x.name(1, 0, 0, 0));
        CHECKS.due("nothing was made", 2, () -> x.about(0));
        CHECKS.due("no name was used", 2, () -> x.about(2));
        CHECKS.due("name 5 is still free", 2, () -> x.name(5, 0, 1, NONE));
    }

    private static void namesBeforeNone() {
        ShapeSearch x = new ShapeSearch();
        CHECKS.due("what stands behind NONE is passed over", 0, () -> x.name(0, NONE, 77, -5));
        CHECKS.due("it is the same as without", 0, () -> x.name(0, NONE, NONE, NONE));
        CHECKS.due("one place", 1, () -> x.name(1, 0, NONE, 99));
        CHECKS.due("one place again", 1, () -> x.name(1, 0, NONE, 0));
        CHECKS.due("its second place", NONE, () -> x.term(1, 3));
        CHECKS.due("its third place", NONE, () -> x.term(1, 4));
    }

    private static void leaves() {
        ShapeSearch x = new ShapeSearch();
        CHECKS.due("variable 7", 0, () -> x.leaf(7, false));
        CHECKS.due("hole 3", 1, () -> x.leaf(3, true));
        CHECKS.due("variable 3", 2, () -> x.leaf(3, false));
        CHECKS.due("variable 7 again", 0, () -> x.leaf(7, false));
        CHECKS.due("hole 3 again", 1, () -> x.leaf(3, true));
        CHECKS.due("variable 8", BOUNDS, () -> x.leaf(8, false));
        CHECKS.due("variable -1", BOUNDS, () -> x.leaf(-1, false));
        CHECKS.due("hole 4", BOUNDS, () -> x.leaf(4, true));
        CHECKS.due("hole -1", BOUNDS, () -> x.leaf(-1, true));
        CHECKS.due("variable of the greatest int", BOUNDS, () -> x.leaf(Integer.MAX_VALUE, false));
        CHECKS.due("three terms", 3, () -> x.about(0));
        CHECKS.due("no names", 0, () -> x.about(2));
    }

    private static void termParts() {
        ShapeSearch x = new ShapeSearch();
        x.name(29, NONE, NONE, NONE);
        x.leaf(7, false);
        x.leaf(3, true);
        x.name(4, 2, 0, 1);
        x.leaf(0, false);
        x.leaf(0, true);
        x.name(0, NONE, NONE, NONE);
        int[][] due = {{0, 29, -1, -1, -1, 1}, {1, 7, -1, -1, -1, 1}, {2, 3, -1, -1, -1, 1}, {0, 4, 2, 0, 1, 4},
            {1, 0, -1, -1, -1, 1}, {2, 0, -1, -1, -1, 1}, {0, 0, -1, -1, -1, 1}};
        for (int t = 0; t < due.length; t++) {
            for (int what = 0; what < 6; what++) {
                int i = t;
                int w = what;
                CHECKS.due("term(" + t + ", " + what + ")", due[t][what], () -> x.term(i, w));
            }
        }
        for (int what : new int[] {-1, 6, 7, Integer.MIN_VALUE, Integer.MAX_VALUE}) {
            CHECKS.due("term(3, " + what + ")", NONE, () -> x.term(3, what));
        }
        for (int t : new int[] {-1, 7, 100, Integer.MIN_VALUE, Integer.MAX_VALUE}) {
            CHECKS.due("term(" + t + ", 0)", NONE, () -> x.term(t, 0));
            CHECKS.due("term(" + t + ", 5)", NONE, () -> x.term(t, 5));
        }
    }

    private static void sizes() {
        ShapeSearch x = new ShapeSearch();
        int t = x.leaf(0, false);
        int due = 1;
        for (int i = 0; i < 99; i++) {
            t = x.name(1, t, t, t);
            due = Math.min(1000000, 3 * due + 1);
            int now = t;
            CHECKS.due("size of " + t, due, () -> x.term(now, 5));
        }
        ShapeSearch y = new ShapeSearch();
        int u = y.leaf(0, false);
        for (int i = 0; i < 18; i++) {
            u = y.name(0, u, u, NONE);
        }
        int last = u;
        CHECKS.due("size 2^19 - 1", 524287, () -> y.term(last, 5));
        CHECKS.due("size 1000000 from 1048575", 1000000, () -> y.term(y.name(0, last, last, NONE), 5));
    }

    private static void hundredTerms() {
        ShapeSearch x = new ShapeSearch();
        x.leaf(0, false);
        for (int t = 1; t < 100; t++) {
            int due = t;
            CHECKS.due("term " + t, due, () -> x.name(1, due - 1, NONE, NONE));
        }
        CHECKS.due("the 101st by name", STATE, () -> x.name(1, 99, NONE, NONE));
        CHECKS.due("the 101st by a new name", STATE, () -> x.name(2, NONE, NONE, NONE));
        CHECKS.due("the new name was not used", STATE, () -> x.name(2, 0, NONE, NONE));
        CHECKS.due("names used", 1, () -> x.about(2));
        CHECKS.due("the 101st by variable", STATE, () -> x.leaf(1, false));
        CHECKS.due("the 101st by hole", STATE, () -> x.leaf(0, true));
        CHECKS.due("no term ahead of the 101st", BOUNDS, () -> x.name(1, 100, NONE, NONE));
        CHECKS.due("no leaf ahead of the 101st", BOUNDS, () -> x.leaf(8, false));
        CHECKS.due("more or fewer ahead of the 101st", ARGUMENT, () -> x.name(1, 0, 0, NONE));
        CHECKS.due("one that is there", 50, () -> x.name(1, 49, NONE, NONE));
        CHECKS.due("a leaf that is there", 0, () -> x.leaf(0, false));
        CHECKS.due("still a hundred", 100, () -> x.about(0));
    }

    private static void allNames() {
        ShapeSearch x = new ShapeSearch();
        for (int n = 0; n < 30; n++) {
            int due = n;
            CHECKS.due("name " + n, due, () -> x.name(due, NONE, NONE, NONE));
            CHECKS.due("names used", due + 1, () -> x.about(2));
        }
    }

    private static void aboutCounts() {
        ShapeSearch x = new ShapeSearch();
        int a = x.name(0, NONE, NONE, NONE);
        int fa = x.name(1, a, NONE, NONE);
        x.leaf(0, true);
        x.state(NONE, NONE, NONE, NONE, a);
        x.state(a, NONE, NONE, NONE, fa);
        x.rank(a);
        CHECKS.due("about terms", 3, () -> x.about(0));
        CHECKS.due("about statements", 2, () -> x.about(1));
        CHECKS.due("about names", 2, () -> x.about(2));
        CHECKS.due("about hits", 2, () -> x.about(3));
        CHECKS.due("about 4", NONE, () -> x.about(4));
        CHECKS.due("about -1", NONE, () -> x.about(-1));
        CHECKS.due("about least int", NONE, () -> x.about(Integer.MIN_VALUE));
        x.forget();
        CHECKS.due("forget leaves terms", 3, () -> x.about(0));
        CHECKS.due("forget leaves names", 2, () -> x.about(2));
        CHECKS.due("forget takes hits", 0, () -> x.about(3));
    }
}
