/** Promises 9 and 10: rank, and hit() of it. */
public final class RankTest {
    private static final int NONE = ShapeSearch.NONE;
    private static final String BOUNDS = "throws.IndexOutOfBoundsException";
    private static final String ARGUMENT = "throws.IllegalArgumentException";
    private static final Checks CHECKS = new Checks();

    public static void main(String[] args) {
        refused();
        order();
        notShortened();
        withoutNames();
        manyNames();
        CHECKS.end("RankTest");
    }

    private static void refused() {
        ShapeSearch x = new ShapeSearch();
        int hole = x.leaf(3, true);
        int holed = x.name(0, hole, NONE, NONE);
        for (int t : new int[] {-1, 2, Integer.MIN_VALUE, Integer.MAX_VALUE}) {
            CHECKS.due("rank(" + t + ")", BOUNDS, () -> x.rank(t));
        }
        CHECKS.due("rank a hole", ARGUMENT, () -> x.rank(hole));
        CHECKS.due("rank with a hole", ARGUMENT, () -> x.rank(holed));
        CHECKS.due("rank among none", 0, () -> x.rank(x.leaf(0, false)));
    }

    private static void order() {
        ShapeSearch x = new ShapeSearch();
        int a = x.name(0, NONE, NONE, NONE);
        int b = x.name(1, NONE, NONE, NONE);
        int v = x.leaf(0, false);
        int fa = x.name(2, a, NONE, NONE);
        int gab = x.name(3, a, b, NONE);
        x.state(NONE, NONE, NONE, NONE, v);
        x.state(NONE, NONE, NONE, NONE, a);
        x.state(b, NONE, NONE, NONE, fa);
        x.state(NONE, NONE, NONE, NONE, fa);
        x.state(gab, NONE, NONE, NONE, fa);
        x.state(NONE, NONE, NONE, NONE, b);
        x.state(v, x.name(2, v, NONE, NONE), a, a, v);
        CHECKS.due("rank f(a)", 7, () -> x.rank(fa));
        CHECKS.dueHits(x, "f(a)", 0, 3, 2, 2, NONE, NONE, NONE);
        CHECKS.dueHits(x, "f(a)", 1, 6, 2, 2, NONE, NONE, NONE);
        CHECKS.dueHits(x, "f(a)", 2, 2, 2, 3, NONE, NONE, NONE);
        CHECKS.dueHits(x, "f(a)", 3, 1, 1, 2, NONE, NONE, NONE);
        CHECKS.dueHits(x, "f(a)", 4, 4, 2, 4, NONE, NONE, NONE);
        CHECKS.dueHits(x, "f(a)", 5, 0, 0, 2, NONE, NONE, NONE);
        CHECKS.dueHits(x, "f(a)", 6, 5, 0, 3, NONE, NONE, NONE);
        CHECKS.dueHits(x, "f(a)", 7, NONE, NONE, NONE, NONE);
        CHECKS.dueHits(x, "f(a)", -1, NONE, NONE, NONE, NONE);
        CHECKS.due("hit(0, -1)", NONE, () -> x.hit(0, -1));
        CHECKS.due("hit(0, 11)", NONE, () -> x.hit(0, 11));
        CHECKS.due("about hits", 7, () -> x.about(3));
    }

    private static void notShortened() {
        ShapeSearch x = new ShapeSearch();
        int a = x.name(0, NONE, NONE, NONE);
        int b = x.name(1, NONE, NONE, NONE);
        int c = x.name(2, NONE, NONE, NONE);
        int gab = x.name(3, a, b, NONE);
        x.state(NONE, NONE, NONE, NONE, x.name(3, a, a, NONE));
        x.state(x.name(4, c, NONE, NONE), x.name(5, c, NONE, NONE), NONE, NONE, gab);
        CHECKS.due("rank g(a, b)", 2, () -> x.rank(gab));
        CHECKS.dueHits(x, "g(a, b)", 0, 0, 2, 3);
        CHECKS.dueHits(x, "g(a, b)", 1, 1, 3, 6);
    }

    private static void withoutNames() {
        ShapeSearch x = new ShapeSearch();
        int v = x.leaf(0, false);
        int a = x.name(0, NONE, NONE, NONE);
        x.state(NONE, NONE, NONE, NONE, a);
        x.state(v, NONE, NONE, NONE, x.leaf(1, false));
        CHECKS.due("rank v", 2, () -> x.rank(v));
        CHECKS.dueHits(x, "v", 0, 0, 0, 1);
        CHECKS.dueHits(x, "v", 1, 1, 0, 1);
    }

    private static void manyNames() {
        ShapeSearch x = new ShapeSearch();
        int t = x.name(0, NONE, NONE, NONE);
        for (int n = 1; n < 30; n++) {
            t = x.name(n, t, NONE, NONE);
            x.state(NONE, NONE, NONE, NONE, t);
        }
        int all = t;
        CHECKS.due("rank all names", 29, () -> x.rank(all));
        for (int i = 0; i < 29; i++) {
            CHECKS.dueHits(x, "all names", i, 28 - i, 30 - i, 30);
        }
        CHECKS.due("rank name 0", 29, () -> x.rank(0));
        for (int i = 0; i < 29; i++) {
            CHECKS.dueHits(x, "name 0", i, i, 1, i + 2);
        }
    }
}
