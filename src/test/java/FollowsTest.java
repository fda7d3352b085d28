/** Promises 13 and 14: follows and tried. */
public final class FollowsTest {
    private static final int NONE = ShapeSearch.NONE;
    private static final String BOUNDS = "throws.IndexOutOfBoundsException";
    private static final String ARGUMENT = "throws.IllegalArgumentException";
    private static final String UNSUPPORTED = "throws.UnsupportedOperationException";
    private static final Checks CHECKS = new Checks();

    public static void main(String[] args) {
        refused();
        chain();
        order();
        newGoalsInOrder();
        leftStatementsDoNotCount();
        openStatements();
        variables();
        laterNewGoals();
        hundredSteps();
        thousandTries();
        growingGoals();
        deepPremises();
        passingTermsGo();
        wideProof();
        noTermsAreMade();
        CHECKS.end("FollowsTest");
    }

    private static void follow(ShapeSearch x, String of, int goal, int steps, Object due, int... tried) {
        CHECKS.due(of + ": follows(" + goal + ", " + steps + ")", due, () -> x.follows(goal, steps));
        for (int what = 0; what < tried.length; what++) {
            int w = what;
            CHECKS.due(of + ": tried(" + what + ")", tried[what], () -> x.tried(w));
        }
    }

    private static void refused() {
        ShapeSearch x = new ShapeSearch();
        int hole = x.leaf(0, true);
        int a = x.name(0, NONE, NONE, NONE);
        int holed = x.name(1, hole, NONE, NONE);
        x.state(NONE, NONE, NONE, NONE, a);
        follow(x, "a", a, 5, true, 1, 1, 0);
        for (int t : new int[] {-1, 3, Integer.MIN_VALUE, Integer.MAX_VALUE}) {
            CHECKS.due("follows(" + t + ", 1)", BOUNDS, () -> x.follows(t, 1));
        }
        CHECKS.due("no term without steps", BOUNDS, () -> x.follows(3, 0));
        CHECKS.due("a hole", ARGUMENT, () -> x.follows(hole, 1));
        CHECKS.due("with a hole, without steps", ARGUMENT, () -> x.follows(holed, -4));
        CHECKS.due("the answers stay", 1, () -> x.tried(0));
        for (int what : new int[] {-1, 3, 4, Integer.MIN_VALUE, Integer.MAX_VALUE}) {
            CHECKS.due("tried(" + what + ")", NONE, () -> x.tried(what));
        }
        follow(x, "no steps", a, 0, false, 0, 0, NONE);
        follow(x, "fewer than no steps", a, Integer.MIN_VALUE, false, 0, 0, NONE);
        x.forget();
        follow(x, "no statements", a, 3, false, 0, 0, NONE);
    }

    private static void chain() {
        ShapeSearch x = new ShapeSearch();
        int a = x.name(0, NONE, NONE, NONE);
        int b = x.name(1, NONE, NONE, NONE);
        int c = x.name(2, NONE, NONE, NONE);
        x.state(b, NONE, NONE, NONE, a);
        x.state(c, NONE, NONE, NONE, b);
        x.state(NONE, NONE, NONE, NONE, c);
        follow(x, "c", c, 1, true, 1, 1, 2);
        follow(x, "b in one", b, 1, false, 3, 0, NONE);
        follow(x, "b in two", b, 2, true, 4, 2, 1);
        follow(x, "a in two", a, 2, false, 6, 0, NONE);
        follow(x, "a in three", a, 3, true, 6, 3, 0);
        follow(x, "a in many", a, Integer.MAX_VALUE, true, 6, 3, 0);
    }

    private static void order() {
        ShapeSearch x = new ShapeSearch();
        int a = x.name(0, NONE, NONE, NONE);
        int b = x.name(1, NONE, NONE, NONE);
        x.state(b, b, NONE, NONE, a);
        x.state(b, NONE, NONE, NONE, a);
        x.state(NONE, NONE, NONE, NONE, b);
        x.state(NONE, NONE, NONE, NONE, b);
        follow(x, "fewer premises first", a, 2, true, 4, 2, 1);
        x.state(NONE, NONE, NONE, NONE, a);
        follow(x, "none is fewest", a, 2, true, 3, 1, 4);
        follow(x, "lesser numbers first", b, 2, true, 1, 1, 2);
    }

    private static void newGoalsInOrder() {
        ShapeSearch x = new ShapeSearch();
        int a = x.name(0, NONE, NONE, NONE);
        int b = x.name(1, NONE, NONE, NONE);
        int c = x.name(2, NONE, NONE, NONE);
        int d = x.name(3, NONE, NONE, NONE);
        x.state(b, c, b, d, a);
        x.state(NONE, NONE, NONE, NONE, b);
        x.state(NONE, NONE, NONE, NONE, c);
        follow(x, "d is missing", a, 2, false, 3 + 1 + 2 + 1 + 3, 0, NONE);
        x.state(NONE, NONE, NONE, NONE, d);
        follow(x, "all four", a, 2, true, 4 + 1 + 2 + 1 + 3, 5, 0);
    }

    private static void leftStatementsDoNotCount() {
        ShapeSearch x = new ShapeSearch();
        int a = x.name(0, NONE, NONE, NONE);
        int b = x.name(1, NONE, NONE, NONE);
        int c = x.name(2, NONE, NONE, NONE);
        x.state(b, c, NONE, NONE, a);
        x.state(NONE, NONE, NONE, NONE, b);
        x.state(b, b, b, NONE, a);
        follow(x, "the first one is left", a, 2, true, 2 + 1 + 3 + 1 + 1 + 1 + 1, 4, 2);
    }

    private static void openStatements() {
        ShapeSearch x = new ShapeSearch();
        int a = x.name(0, NONE, NONE, NONE);
        int v = x.leaf(0, false);
        int w = x.leaf(1, false);
        int fv = x.name(1, v, NONE, NONE);
        int fa = x.name(1, a, NONE, NONE);
        x.state(w, NONE, NONE, NONE, fv);
        x.state(NONE, NONE, NONE, NONE, w);
        follow(x, "any term", a, 1, true, 1, 1, 1);
        x.forget();
        x.state(NONE, NONE, NONE, NONE, a);
        follow(x, "an open one is passed over", fa, 5, false, 2, 0, NONE);
        x.state(v, NONE, NONE, NONE, fv);
        follow(x, "one without open ones", fa, 5, true, 4, 2, 2);
    }

    private static void variables() {
        ShapeSearch x = new ShapeSearch();
        int v = x.leaf(0, false);
        int w = x.leaf(1, false);
        int a = x.name(0, NONE, NONE, NONE);
        int b = x.name(4, NONE, NONE, NONE);
        int gvw = x.name(1, v, w, NONE);
        int gwv = x.name(1, w, v, NONE);
        int gab = x.name(1, a, b, NONE);
        int gba = x.name(1, b, a, NONE);
        x.state(gwv, NONE, NONE, NONE, gvw);
        x.state(NONE, NONE, NONE, NONE, gab);
        follow(x, "the places change", gba, 2, true, 2 + 1, 2, 0);
        follow(x, "the goal's variables stay", gwv, 3, false, 6, 0, NONE);
        x.state(NONE, NONE, NONE, NONE, x.name(1, v, v, NONE));
        follow(x, "g(a, b) is no g(v, v)", gba, 1, false, 3, 0, NONE);
        follow(x, "g(b, b) is", x.name(1, b, b, NONE), 1, true, 2, 1, 2);
    }

    /** p(n) follows from p(n - 1), down to p(0), which is stated: n + 1 steps. */
    private static void hundredSteps() {
        ShapeSearch x = new ShapeSearch();
        int v = x.leaf(0, false);
        int zero = x.name(0, NONE, NONE, NONE);
        int pv = x.name(1, v, NONE, NONE);
        int psv = x.name(1, x.name(2, v, NONE, NONE), NONE, NONE);
        int pzero = x.name(1, zero, NONE, NONE);
        x.state(pv, NONE, NONE, NONE, psv);
        x.state(NONE, NONE, NONE, NONE, pzero);
        int n = zero;
        for (int i = 0; i < 90; i++) {
            n = x.name(2, n, NONE, NONE);
        }
        int goal = x.name(1, n, NONE, NONE);
        follow(x, "90 is not 91", goal, 90, false, 180, 0, NONE);
        follow(x, "91 is", goal, 91, true, 181, 91, 0);
        follow(x, "1000 is", goal, 1000, true, 181, 91, 0);
        ShapeSearch y = new ShapeSearch();
        int a = y.name(0, NONE, NONE, NONE);
        y.state(a, NONE, NONE, NONE, a);
        follow(y, "99 steps", a, 99, false, 99, 0, NONE);
        follow(y, "100 steps", a, 100, false, 100, 0, NONE);
        follow(y, "101 count as 100", a, 101, false, 100, 0, NONE);
        follow(y, "all count as 100", a, Integer.MAX_VALUE, false, 100, 0, NONE);
    }

    private static void thousandTries() {
        ShapeSearch x = new ShapeSearch();
        int a = x.name(0, NONE, NONE, NONE);
        int b = x.name(1, NONE, NONE, NONE);
        for (int i = 0; i < 9; i++) {
            x.state(b, NONE, NONE, NONE, b);
        }
        x.state(a, NONE, NONE, NONE, a);
        follow(x, "1000 tries", a, 100, false, 1000, 0, NONE);
        x.state(b, b, b, b, b);
        follow(x, "1089 tries", a, 99, UNSUPPORTED, 1000, 0, NONE);
        follow(x, "and fewer again", a, 90, false, 990, 0, NONE);
        ShapeSearch y = new ShapeSearch();
        int c = y.name(0, NONE, NONE, NONE);
        y.state(c, c, NONE, NONE, c);
        y.state(c, c, NONE, NONE, c);
        follow(y, "doubling", c, 8, false, 510, 0, NONE);
        follow(y, "doubling too often", c, 9, UNSUPPORTED, 1000, 0, NONE);
        CHECKS.due("the terms stay", 1, () -> y.about(0));
        y.state(NONE, NONE, NONE, NONE, c);
        follow(y, "fewest premises first", c, 100, true, 1, 1, 2);
    }

    /** The goal doubles at each step: it must not be written out. */
    private static void growingGoals() {
        ShapeSearch x = new ShapeSearch();
        int v = x.leaf(0, false);
        int pv = x.name(1, v, v, NONE);
        int gv = x.name(2, v, v, v);
        int pg = x.name(1, gv, gv, NONE);
        x.state(pg, NONE, NONE, NONE, pv);
        int a = x.name(0, NONE, NONE, NONE);
        follow(x, "three times as much each step", x.name(1, a, a, NONE), 100, false, 100, 0, NONE);
        CHECKS.due("no terms were made", 6, () -> x.about(0));
    }

    /** Each of a hundred steps puts some ninety names round the goal's term. */
    private static void deepPremises() {
        ShapeSearch x = new ShapeSearch();
        int v = x.leaf(0, false);
        int a = x.name(0, NONE, NONE, NONE);
        int pv = x.name(1, v, NONE, NONE);
        int pa = x.name(1, a, NONE, NONE);
        int deep = v;
        for (int i = 0; i < 95; i++) {
            deep = x.name(2, deep, NONE, NONE);
        }
        x.state(x.name(1, deep, NONE, NONE), NONE, NONE, NONE, pv);
        CHECKS.due("a hundred terms", 100, () -> x.about(0));
        follow(x, "deep premises", pa, 100, false, 100, 0, NONE);
        follow(x, "deep premises again", pa, 50, false, 50, 0, NONE);
        CHECKS.due("still a hundred terms", 100, () -> x.about(0));
        CHECKS.due("p(a) is still there", pa, () -> x.name(1, a, NONE, NONE));
        for (int i = 0; i < 9; i++) {
            x.state(x.term(pa, 2), x.leaf(0, false), NONE, NONE, pv);
        }
        follow(x, "with others behind it", pa, 100, UNSUPPORTED, 1000, 0, NONE);
        CHECKS.due("and a hundred terms", 100, () -> x.about(0));
    }

    /** Two long ways, one behind the other: together they would have more passing terms than one may. */
    private static void passingTermsGo() {
        ShapeSearch x = new ShapeSearch();
        int v = x.leaf(0, false);
        int t = x.name(0, NONE, NONE, NONE);
        int pv = x.name(1, v, NONE, NONE);
        int deep = v;
        for (int i = 0; i < 90; i++) {
            deep = x.name(2, deep, NONE, NONE);
        }
        x.state(x.name(1, deep, NONE, NONE), NONE, NONE, NONE, pv);
        x.state(x.name(1, x.name(3, NONE, NONE, NONE), NONE, NONE), NONE, NONE, NONE, t);
        x.state(x.name(1, x.name(4, NONE, NONE, NONE), NONE, NONE), NONE, NONE, NONE, t);
        follow(x, "two long ways", t, 100, false, 3 + 2 * 99 * 3, 0, NONE);
    }

    /** p(s(d), v) follows from four p(d, ..), down to p(0, v): twice 341 statements, and three more. */
    private static void wideProof() {
        ShapeSearch x = new ShapeSearch();
        int v = x.leaf(0, false);
        int d = x.leaf(1, false);
        int zero = x.name(0, NONE, NONE, NONE);
        int[] below = new int[4];
        for (int k = 0; k < 4; k++) {
            int deep = v;
            for (int i = 0; i < 19; i++) {
                deep = x.name(10 + k, deep, NONE, NONE);
            }
            below[k] = x.name(1, d, deep, NONE);
        }
        x.state(below[0], below[1], below[2], below[3], x.name(1, x.name(2, d, NONE, NONE), v, NONE));
        x.state(NONE, NONE, NONE, NONE, x.name(1, zero, v, NONE));
        int four = zero;
        for (int i = 0; i < 4; i++) {
            four = x.name(2, four, NONE, NONE);
        }
        int a = x.name(3, NONE, NONE, NONE);
        int b = x.name(4, NONE, NONE, NONE);
        int t = x.name(5, NONE, NONE, NONE);
        int pzero = x.name(1, zero, a, NONE);
        x.state(x.name(1, four, a, NONE), x.name(1, four, b, NONE), pzero, pzero, t);
        follow(x, "in five steps", t, 5, false, 3 + 4 * 3, 0, NONE);
        follow(x, "in six steps", t, 6, true, 3 + 2 * (85 * 2 + 256) + 2, 1 + 2 * 341 + 2, 2);
    }

    /** A later new goal has the terms of its own level, whatever was matched for the goals ahead of it. */
    private static void laterNewGoals() {
        ShapeSearch x = new ShapeSearch();
        int v = x.leaf(0, false);
        int w = x.leaf(1, false);
        int a = x.name(0, NONE, NONE, NONE);
        int b = x.name(1, NONE, NONE, NONE);
        int pvw = x.name(2, v, w, NONE);
        int qv = x.name(3, v, NONE, NONE);
        int rw = x.name(4, w, NONE, NONE);
        int ra = x.name(4, a, NONE, NONE);
        x.state(qv, rw, NONE, NONE, pvw);
        x.state(NONE, NONE, NONE, NONE, x.name(3, w, NONE, NONE));
        x.state(NONE, NONE, NONE, NONE, ra);
        follow(x, "r(a) is stated", x.name(2, b, a, NONE), 2, true, 3 + 1 + 2, 3, 0);
        follow(x, "r(b) is not", x.name(2, a, b, NONE), 2, false, 3 + 1 + 3, 0, NONE);
    }

    private static void noTermsAreMade() {
        ShapeSearch x = new ShapeSearch();
        int v = x.leaf(0, false);
        int a = x.name(0, NONE, NONE, NONE);
        int pv = x.name(1, v, NONE, NONE);
        int qv = x.name(2, v, NONE, NONE);
        int pa = x.name(1, a, NONE, NONE);
        x.state(qv, NONE, NONE, NONE, pv);
        x.state(NONE, NONE, NONE, NONE, qv);
        x.fit(pa);
        follow(x, "p(a) by q(a)", pa, 2, true, 3, 2, 0);
        CHECKS.due("q(a) was not made", 5, () -> x.about(0));
        CHECKS.due("hits stay", 1, () -> x.about(3));
        CHECKS.due("the hit's variable stays", a, () -> x.hit(0, 4));
        CHECKS.due("q(a) is made by goal()", 5, () -> x.goal(0, 0));
        follow(x, "the same with it", pa, 2, true, 3, 2, 0);
    }
}
