/** Promises 8, 10 and 11: fit, hit() of it, and goal. */
public final class FitTest {
    private static final int NONE = ShapeSearch.NONE;
    private static final String BOUNDS = "throws.IndexOutOfBoundsException";
    private static final String ARGUMENT = "throws.IllegalArgumentException";
    private static final String STATE = "throws.IllegalStateException";
    private static final Checks CHECKS = new Checks();

    public static void main(String[] args) {
        refused();
        fewerPremisesFirst();
        variables();
        sameVariableSameTerm();
        goalsVariablesStandForThemselves();
        lastTerm();
        openVariables();
        goalsOfEachHit();
        newGoals();
        madeFromWithin();
        goalRefused();
        noRoom();
        greatGoals();
        CHECKS.end("FitTest");
    }

    private static void refused() {
        ShapeSearch x = new ShapeSearch();
        int hole = x.leaf(0, true);
        int holed = x.name(0, hole, NONE, NONE);
        for (int t : new int[] {-1, 2, Integer.MIN_VALUE, Integer.MAX_VALUE}) {
            CHECKS.due("fit(" + t + ")", BOUNDS, () -> x.fit(t));
        }
        CHECKS.due("fit a hole", ARGUMENT, () -> x.fit(hole));
        CHECKS.due("fit with a hole", ARGUMENT, () -> x.fit(holed));
        CHECKS.due("fit among none", 0, () -> x.fit(x.leaf(0, false)));
    }

    private static void fewerPremisesFirst() {
        ShapeSearch x = new ShapeSearch();
        int a = x.name(0, NONE, NONE, NONE);
        int b = x.name(1, NONE, NONE, NONE);
        x.state(b, b, b, b, a);
        x.state(b, NONE, NONE, NONE, a);
        x.state(b, b, NONE, NONE, b);
        x.state(NONE, NONE, NONE, NONE, a);
        x.state(b, b, b, NONE, a);
        x.state(b, NONE, NONE, NONE, a);
        x.state(b, b, NONE, NONE, a);
        x.state(NONE, NONE, NONE, NONE, a);
        CHECKS.due("fit a", 7, () -> x.fit(a));
        int[] order = {3, 7, 1, 5, 6, 4, 0};
        int[] premises = {0, 0, 1, 1, 2, 3, 4};
        for (int i = 0; i < order.length; i++) {
            CHECKS.dueHits(x, "fit a", i, order[i], 0, premises[i], NONE, NONE);
        }
        CHECKS.dueHits(x, "fit a", 7, NONE, NONE, NONE, NONE, NONE);
    }

    private static void variables() {
        ShapeSearch x = new ShapeSearch();
        int a = x.name(0, NONE, NONE, NONE);
        int fa = x.name(1, a, NONE, NONE);
        int v = x.leaf(0, false);
        int w = x.leaf(7, false);
        int hvwv = x.name(2, v, w, v);
        x.state(NONE, NONE, NONE, NONE, hvwv);
        x.state(NONE, NONE, NONE, NONE, w);
        int goal = x.name(2, fa, a, fa);
        CHECKS.due("fit h(f(a), a, f(a))", 2, () -> x.fit(goal));
        CHECKS.dueHits(x, "h(v, w, v)", 0, 0, 0, 0, NONE, fa, NONE, NONE, NONE, NONE, NONE, NONE, a, NONE);
        CHECKS.dueHits(x, "w", 1, 1, 0, 0, NONE, NONE, NONE, NONE, NONE, NONE, NONE, NONE, goal, NONE);
        for (int what : new int[] {-1, 12, Integer.MIN_VALUE, Integer.MAX_VALUE}) {
            CHECKS.due("hit(0, " + what + ")", NONE, () -> x.hit(0, what));
        }
    }

    private static void sameVariableSameTerm() {
        ShapeSearch x = new ShapeSearch();
        int a = x.name(0, NONE, NONE, NONE);
        int b = x.name(1, NONE, NONE, NONE);
        int v = x.leaf(0, false);
        int fv = x.name(2, v, NONE, NONE);
        int fa = x.name(2, a, NONE, NONE);
        int fb = x.name(2, b, NONE, NONE);
        x.state(NONE, NONE, NONE, NONE, x.name(3, v, fv, NONE));
        CHECKS.due("g(a, f(a))", 1, () -> x.fit(x.name(3, a, fa, NONE)));
        CHECKS.due("g(a, f(b))", 0, () -> x.fit(x.name(3, a, fb, NONE)));
        CHECKS.due("g(f(a), f(f(a)))", 1, () -> x.fit(x.name(3, fa, x.name(2, fa, NONE, NONE), NONE)));
        CHECKS.due("g(a, a)", 0, () -> x.fit(x.name(3, a, a, NONE)));
        CHECKS.due("v for itself", 1, () -> x.fit(x.name(3, v, fv, NONE)));
    }

    private static void goalsVariablesStandForThemselves() {
        ShapeSearch x = new ShapeSearch();
        int a = x.name(0, NONE, NONE, NONE);
        int v = x.leaf(0, false);
        int w = x.leaf(1, false);
        int gvw = x.name(1, v, w, NONE);
        int gwv = x.name(1, w, v, NONE);
        x.state(NONE, NONE, NONE, NONE, x.name(1, a, a, NONE));
        x.state(NONE, NONE, NONE, NONE, x.name(1, v, v, NONE));
        x.state(gvw, NONE, NONE, NONE, gwv);
        CHECKS.due("fit g(v, w)", 1, () -> x.fit(gvw));
        CHECKS.dueHits(x, "g(w, v)", 0, 2, 0, 1, NONE, w, v, NONE);
        CHECKS.due("all at once, not one behind the other", gwv, () -> x.goal(0, 0));
        CHECKS.due("fit v", 0, () -> x.fit(v));
    }

    /** The conclusion is the last term that there may be. */
    private static void lastTerm() {
        ShapeSearch x = new ShapeSearch();
        int v = x.leaf(0, false);
        int a = x.name(0, NONE, NONE, NONE);
        int b = x.name(1, NONE, NONE, NONE);
        int hole = x.leaf(0, true);
        int goal = x.name(2, a, b, NONE);
        int fitting = x.name(2, b, b, NONE);
        int shape = x.name(2, hole, hole, NONE);
        for (int t = 7; t < 99; t++) {
            x.name(3, t - 1, NONE, NONE);
        }
        int last = x.name(2, v, v, NONE);
        x.state(NONE, NONE, NONE, NONE, last);
        CHECKS.due("the hundredth term", 99, () -> last);
        CHECKS.due("g(v, v) does not fit g(a, b)", 0, () -> x.fit(goal));
        CHECKS.due("nor does it follow", false, () -> x.follows(goal, 1));
        CHECKS.due("g(v, v) fits g(b, b)", 1, () -> x.fit(fitting));
        CHECKS.due("v is b", b, () -> x.hit(0, 4));
        CHECKS.due("it is found by g(_, _)", 1, () -> x.find(shape));
        CHECKS.due("the term there", last, () -> x.hit(0, 2));
        CHECKS.due("it is found by itself", 1, () -> x.find(last));
    }

    private static void openVariables() {
        ShapeSearch x = new ShapeSearch();
        int a = x.name(0, NONE, NONE, NONE);
        int v = x.leaf(0, false);
        int w = x.leaf(1, false);
        int u = x.leaf(5, false);
        int fv = x.name(1, v, NONE, NONE);
        int fa = x.name(1, a, NONE, NONE);
        int gvw = x.name(2, v, w, NONE);
        int gwu = x.name(2, w, u, NONE);
        x.state(gvw, gwu, gwu, NONE, fv);
        CHECKS.due("fit f(a)", 1, () -> x.fit(fa));
        CHECKS.dueHits(x, "f(v)", 0, 0, 2, 3, NONE, a, NONE, NONE, NONE, NONE, NONE);
        CHECKS.due("new goal g(a, w)", 8, () -> x.goal(0, 0));
        CHECKS.due("its first place", a, () -> x.term(8, 2));
        CHECKS.due("its second place", w, () -> x.term(8, 3));
        CHECKS.due("new goal g(w, u)", gwu, () -> x.goal(0, 1));
        CHECKS.due("new goal g(w, u) again", gwu, () -> x.goal(0, 2));
        CHECKS.due("fit f(w)", 1, () -> x.fit(x.name(1, w, NONE, NONE)));
        CHECKS.due("the goal's w and the open w", x.about(0), () -> x.goal(0, 0));
        CHECKS.due("g(w, w): first", w, () -> x.term(x.about(0) - 1, 2));
        CHECKS.due("g(w, w): second", w, () -> x.term(x.about(0) - 1, 3));
    }

    /** Goals of several hits, asked for in another order, each with its own hit's terms. */
    private static void goalsOfEachHit() {
        ShapeSearch x = new ShapeSearch();
        int w = x.leaf(1, false);
        int a = x.name(0, NONE, NONE, NONE);
        int b = x.name(3, NONE, NONE, NONE);
        int v = x.leaf(0, false);
        int gvw = x.name(1, v, w, NONE);
        int gwv = x.name(1, w, v, NONE);
        int gab = x.name(1, a, b, NONE);
        x.state(x.name(2, v, NONE, NONE), w, NONE, NONE, gvw);
        x.state(x.name(2, v, NONE, NONE), w, NONE, NONE, gwv);
        x.state(w, NONE, NONE, NONE, gab);
        CHECKS.due("fit g(a, b)", 3, () -> x.fit(gab));
        CHECKS.due("an open variable, alone, the first term", w, () -> x.goal(0, 0));
        CHECKS.due("w is a", a, () -> x.goal(2, 1));
        CHECKS.due("w is b", b, () -> x.goal(1, 1));
        int made = x.about(0);
        CHECKS.due("f(b)", made, () -> x.goal(2, 0));
        CHECKS.due("f(a)", made + 1, () -> x.goal(1, 0));
        CHECKS.due("of b", b, () -> x.term(made, 2));
        CHECKS.due("of a", a, () -> x.term(made + 1, 2));
    }

    private static void newGoals() {
        ShapeSearch x = new ShapeSearch();
        int a = x.name(0, NONE, NONE, NONE);
        int v = x.leaf(0, false);
        int fv = x.name(1, v, NONE, NONE);
        int fa = x.name(1, a, NONE, NONE);
        int ffv = x.name(1, fv, NONE, NONE);
        x.state(v, fa, ffv, fv, fv);
        x.fit(fa);
        CHECKS.due("v becomes a", a, () -> x.goal(0, 0));
        CHECKS.due("f(a) stays", fa, () -> x.goal(0, 1));
        CHECKS.due("f(f(v)) becomes f(f(a))", 5, () -> x.goal(0, 2));
        CHECKS.due("f(v) becomes f(a)", fa, () -> x.goal(0, 3));
        CHECKS.due("made once", 5, () -> x.goal(0, 2));
        CHECKS.due("hits stay", 1, () -> x.about(3));
        CHECKS.due("six terms", 6, () -> x.about(0));
    }

    private static void madeFromWithin() {
        ShapeSearch x = new ShapeSearch();
        int a = x.name(0, NONE, NONE, NONE);
        int v = x.leaf(0, false);
        int fv = x.name(1, v, NONE, NONE);
        int gv = x.name(2, v, NONE, NONE);
        int fgv = x.name(1, gv, NONE, NONE);
        int h = x.name(3, fgv, fv, gv);
        int pv = x.name(4, v, NONE, NONE);
        int pa = x.name(4, a, NONE, NONE);
        x.state(h, NONE, NONE, NONE, pv);
        x.fit(pa);
        CHECKS.due("h(f(g(a)), f(a), g(a))", 11, () -> x.goal(0, 0));
        int[][] due = {{2, a, NONE, NONE}, {1, 8, NONE, NONE}, {1, a, NONE, NONE}, {3, 9, 10, 8}};
        for (int i = 0; i < due.length; i++) {
            for (int what = 1; what < 5; what++) {
                int t = 8 + i;
                int w = what;
                CHECKS.due("made: term(" + t + ", " + what + ")", due[i][what - 1], () -> x.term(t, w));
            }
        }
    }

    private static void goalRefused() {
        ShapeSearch x = new ShapeSearch();
        int a = x.name(0, NONE, NONE, NONE);
        CHECKS.due("no hits", BOUNDS, () -> x.goal(0, 0));
        x.state(a, a, NONE, NONE, a);
        x.fit(a);
        CHECKS.due("goal(0, 1)", a, () -> x.goal(0, 1));
        CHECKS.due("goal(0, 2)", BOUNDS, () -> x.goal(0, 2));
        CHECKS.due("goal(0, 3)", BOUNDS, () -> x.goal(0, 3));
        CHECKS.due("goal(0, -1)", BOUNDS, () -> x.goal(0, -1));
        CHECKS.due("goal(1, 0)", BOUNDS, () -> x.goal(1, 0));
        CHECKS.due("goal(-1, 0)", BOUNDS, () -> x.goal(-1, 0));
        CHECKS.due("goal of the least int", BOUNDS, () -> x.goal(Integer.MIN_VALUE, Integer.MIN_VALUE));
        x.rank(a);
        CHECKS.due("goal() of rank", BOUNDS, () -> x.goal(0, 0));
        x.find(a);
        CHECKS.due("goal() of find", BOUNDS, () -> x.goal(0, 0));
        x.fit(a);
        x.state(NONE, NONE, NONE, NONE, a);
        CHECKS.due("goal() behind state()", BOUNDS, () -> x.goal(0, 0));
        x.fit(a);
        x.forget();
        CHECKS.due("goal() behind forget()", BOUNDS, () -> x.goal(0, 0));
    }

    private static void noRoom() {
        ShapeSearch x = new ShapeSearch();
        int a = x.name(0, NONE, NONE, NONE);
        int v = x.leaf(0, false);
        int fv = x.name(1, v, NONE, NONE);
        int ffv = x.name(1, fv, NONE, NONE);
        int fffv = x.name(1, ffv, NONE, NONE);
        int pv = x.name(2, v, NONE, NONE);
        int pa = x.name(2, a, NONE, NONE);
        x.state(fffv, fv, NONE, NONE, pv);
        for (int i = 0; i < 91; i++) {
            x.name(3, i, NONE, NONE);
        }
        CHECKS.due("98 terms", 98, () -> x.about(0));
        x.fit(pa);
        CHECKS.due("three terms more", STATE, () -> x.goal(0, 0));
        CHECKS.due("two were made", 100, () -> x.about(0));
        CHECKS.due("f(a)", a, () -> x.term(98, 2));
        CHECKS.due("f(f(a))", 98, () -> x.term(99, 2));
        CHECKS.due("once more", STATE, () -> x.goal(0, 0));
        CHECKS.due("f(a) was made", 98, () -> x.goal(0, 1));
        CHECKS.due("no such goal ahead of no room", BOUNDS, () -> x.goal(0, 2));
        CHECKS.due("hits stay", 1, () -> x.about(3));
    }

    private static void greatGoals() {
        ShapeSearch x = new ShapeSearch();
        int v = x.leaf(0, false);
        int a = x.name(0, NONE, NONE, NONE);
        int pv = x.name(1, v, NONE, NONE);
        int t = v;
        for (int i = 0; i < 48; i++) {
            t = x.name(2, t, t, t);
        }
        x.state(t, NONE, NONE, NONE, pv);
        x.state(NONE, NONE, NONE, NONE, t);
        CHECKS.due("fit p(a)", 1, () -> x.fit(x.name(1, a, NONE, NONE)));
        CHECKS.due("a great new goal", 99, () -> x.goal(0, 0));
        CHECKS.due("it fits", 1, () -> x.fit(99));
        CHECKS.due("its variable", a, () -> x.hit(0, 4));
        deepGoal();
    }

    private static void deepGoal() {
        ShapeSearch x = new ShapeSearch();
        int v = x.leaf(0, false);
        int deep = v;
        for (int i = 0; i < 97; i++) {
            deep = x.name(2, deep, NONE, NONE);
        }
        int pv = x.name(1, v, NONE, NONE);
        x.state(deep, NONE, NONE, NONE, pv);
        x.fit(pv);
        int due = deep;
        CHECKS.due("a deep new goal", due, () -> x.goal(0, 0));
        CHECKS.due("it was there", 99, () -> x.about(0));
    }
}
