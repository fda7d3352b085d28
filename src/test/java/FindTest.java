/** Promises 7 and 10: find, and hit() of it. */
public final class FindTest {
    private static final int NONE = ShapeSearch.NONE;
    private static final String BOUNDS = "throws.IndexOutOfBoundsException";
    private static final Checks CHECKS = new Checks();

    public static void main(String[] args) {
        refused();
        conclusionFirst();
        fromTheOutside();
        holes();
        sameHoleSameTerm();
        variablesStandForThemselves();
        shapesWithoutHoles();
        greatTerms();
        CHECKS.end("FindTest");
    }

    private static void refused() {
        ShapeSearch x = new ShapeSearch();
        x.leaf(0, true);
        for (int t : new int[] {-1, 1, 100, Integer.MIN_VALUE, Integer.MAX_VALUE}) {
            CHECKS.due("find(" + t + ")", BOUNDS, () -> x.find(t));
        }
        CHECKS.due("find among none", 0, () -> x.find(0));
    }

    private static void conclusionFirst() {
        ShapeSearch x = new ShapeSearch();
        int a = x.name(0, NONE, NONE, NONE);
        int b = x.name(1, NONE, NONE, NONE);
        int fa = x.name(2, a, NONE, NONE);
        int fb = x.name(2, b, NONE, NONE);
        int hole = x.leaf(0, true);
        int shape = x.name(2, hole, NONE, NONE);
        x.state(fa, fb, NONE, NONE, a);
        x.state(fa, NONE, NONE, NONE, fb);
        x.state(a, b, a, x.name(3, fb, NONE, NONE), b);
        x.state(a, b, NONE, NONE, b);
        CHECKS.due("find f(_)", 3, () -> x.find(shape));
        CHECKS.dueHits(x, "f(_)", 0, 0, 0, fa, NONE, a, NONE, NONE, NONE, NONE, NONE);
        CHECKS.dueHits(x, "f(_)", 1, 1, NONE, fb, NONE, b, NONE, NONE, NONE, NONE, NONE);
        CHECKS.dueHits(x, "f(_)", 2, 2, 3, fb, NONE, b, NONE, NONE, NONE, NONE, NONE);
        CHECKS.dueHits(x, "f(_)", 3, NONE, NONE, NONE, NONE, NONE, NONE, NONE, NONE);
        CHECKS.dueHits(x, "f(_)", -1, NONE, NONE, NONE, NONE, NONE);
        for (int what : new int[] {-1, 8, 11, 12, Integer.MIN_VALUE, Integer.MAX_VALUE}) {
            CHECKS.due("hit(0, " + what + ")", NONE, () -> x.hit(0, what));
        }
        CHECKS.due("goal() of find", BOUNDS, () -> x.goal(0, 0));
        CHECKS.due("about hits", 3, () -> x.about(3));
    }

    private static void fromTheOutside() {
        ShapeSearch x = new ShapeSearch();
        int a = x.name(0, NONE, NONE, NONE);
        int b = x.name(1, NONE, NONE, NONE);
        int fb = x.name(2, b, NONE, NONE);
        int fa = x.name(2, a, NONE, NONE);
        int gfa = x.name(3, fa, NONE, NONE);
        int ffa = x.name(2, fa, NONE, NONE);
        int hole = x.leaf(0, true);
        int shape = x.name(2, hole, NONE, NONE);
        x.state(NONE, NONE, NONE, NONE, x.name(4, gfa, fb, a));
        x.state(NONE, NONE, NONE, NONE, x.name(4, a, fb, gfa));
        x.state(NONE, NONE, NONE, NONE, x.name(4, b, a, ffa));
        x.state(NONE, NONE, NONE, NONE, x.name(4, gfa, ffa, fb));
        CHECKS.due("find f(_)", 4, () -> x.find(shape));
        CHECKS.due("deep in the first place", fa, () -> x.hit(0, 2));
        CHECKS.due("second place ahead of third", fb, () -> x.hit(1, 2));
        CHECKS.due("outside ahead of inside", ffa, () -> x.hit(2, 2));
        CHECKS.due("first place ahead of what is further out", fa, () -> x.hit(3, 2));
        CHECKS.due("the hole of the outside", fa, () -> x.hit(2, 4));
        CHECKS.due("find _", 4, () -> x.find(hole));
        CHECKS.due("all of it", x.name(4, b, a, ffa), () -> x.hit(2, 4));
    }

    private static void holes() {
        ShapeSearch x = new ShapeSearch();
        int a = x.name(0, NONE, NONE, NONE);
        int b = x.name(1, NONE, NONE, NONE);
        int v = x.leaf(7, false);
        int gabv = x.name(2, a, b, v);
        x.state(NONE, NONE, NONE, NONE, gabv);
        int first = x.leaf(0, true);
        int third = x.leaf(2, true);
        int last = x.leaf(3, true);
        CHECKS.due("find g(_3, _0, _2)", 1, () -> x.find(x.name(2, last, first, third)));
        CHECKS.dueHits(x, "g(_3, _0, _2)", 0, 0, NONE, gabv, NONE, b, NONE, v, a, NONE);
        CHECKS.due("find g(a, _2, v)", 1, () -> x.find(x.name(2, a, third, v)));
        CHECKS.dueHits(x, "g(a, _2, v)", 0, 0, NONE, gabv, NONE, NONE, NONE, b, NONE, NONE);
        CHECKS.due("find g(b, _2, v)", 0, () -> x.find(x.name(2, b, third, v)));
        CHECKS.due("no hits", NONE, () -> x.hit(0, 0));
    }

    private static void sameHoleSameTerm() {
        ShapeSearch x = new ShapeSearch();
        int a = x.name(0, NONE, NONE, NONE);
        int b = x.name(1, NONE, NONE, NONE);
        int hole = x.leaf(0, true);
        int fa = x.name(2, a, NONE, NONE);
        int fb = x.name(2, b, NONE, NONE);
        x.state(NONE, NONE, NONE, NONE, x.name(3, a, fa, NONE));
        x.state(NONE, NONE, NONE, NONE, x.name(3, a, fb, NONE));
        x.state(NONE, NONE, NONE, NONE, x.name(3, fa, a, NONE));
        x.state(NONE, NONE, NONE, NONE, x.name(3, b, fb, NONE));
        CHECKS.due("find g(_, f(_))", 2, () -> x.find(x.name(3, hole, x.name(2, hole, NONE, NONE), NONE)));
        CHECKS.due("first", 0, () -> x.hit(0, 0));
        CHECKS.due("second", 3, () -> x.hit(1, 0));
        CHECKS.due("second's hole", b, () -> x.hit(1, 4));
    }

    private static void variablesStandForThemselves() {
        ShapeSearch x = new ShapeSearch();
        int v = x.leaf(0, false);
        int w = x.leaf(1, false);
        int a = x.name(0, NONE, NONE, NONE);
        int fv = x.name(1, v, NONE, NONE);
        int fw = x.name(1, w, NONE, NONE);
        int fa = x.name(1, a, NONE, NONE);
        x.state(NONE, NONE, NONE, NONE, fw);
        x.state(NONE, NONE, NONE, NONE, fa);
        x.state(NONE, NONE, NONE, NONE, fv);
        CHECKS.due("find f(v)", 1, () -> x.find(fv));
        CHECKS.due("the one with v", 2, () -> x.hit(0, 0));
        CHECKS.due("find w", 1, () -> x.find(w));
        CHECKS.due("find f(_)", 3, () -> x.find(x.name(1, x.leaf(1, true), NONE, NONE)));
        CHECKS.due("a hole gives way to a variable", w, () -> x.hit(0, 5));
    }

    private static void shapesWithoutHoles() {
        ShapeSearch x = new ShapeSearch();
        int a = x.name(0, NONE, NONE, NONE);
        int b = x.name(1, NONE, NONE, NONE);
        int fa = x.name(2, a, NONE, NONE);
        x.state(fa, NONE, NONE, NONE, b);
        x.state(b, b, fa, NONE, b);
        CHECKS.due("find a", 2, () -> x.find(a));
        CHECKS.due("in premise 0", 0, () -> x.hit(0, 1));
        CHECKS.due("in premise 2", 2, () -> x.hit(1, 1));
        CHECKS.due("a itself", a, () -> x.hit(1, 2));
        CHECKS.due("no holes", NONE, () -> x.hit(1, 4));
    }

    private static void greatTerms() {
        ShapeSearch x = new ShapeSearch();
        int hole = x.leaf(0, true);
        int t = x.leaf(0, false);
        int deep = x.name(1, t, NONE, NONE);
        int shape = hole;
        int u = deep;
        for (int i = 0; i < 45; i++) {
            u = x.name(0, u, u, u);
            shape = x.name(0, shape, shape, shape);
        }
        int all = shape;
        int whole = u;
        x.state(NONE, NONE, NONE, NONE, whole);
        CHECKS.due("a great shape", 1, () -> x.find(all));
        CHECKS.due("its hole", deep, () -> x.hit(0, 4));
        CHECKS.due("the whole", whole, () -> x.hit(0, 2));
        CHECKS.due("deep in a great term", 1, () -> x.find(t));
        int b = x.name(2, NONE, NONE, NONE);
        x.state(NONE, NONE, NONE, NONE, x.name(3, whole, b, NONE));
        CHECKS.due("behind a great term", 1, () -> x.find(b));
        CHECKS.due("in the second statement", 1, () -> x.hit(0, 0));
        CHECKS.due("nothing in a great term", 0, () -> x.find(x.name(1, x.leaf(1, false), NONE, NONE)));
    }
}
