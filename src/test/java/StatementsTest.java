/** Promises 5, 6 and 12: state, forget, twin. */
public final class StatementsTest {
    private static final int NONE = ShapeSearch.NONE;
    private static final String BOUNDS = "throws.IndexOutOfBoundsException";
    private static final String ARGUMENT = "throws.IllegalArgumentException";
    private static final String STATE = "throws.IllegalStateException";
    private static final Checks CHECKS = new Checks();

    public static void main(String[] args) {
        refused();
        thirty();
        forgetting();
        hitsStayWhenRefused();
        twins();
        twinsOfPremises();
        twinsOfGreatTerms();
        CHECKS.end("StatementsTest");
    }

    private static void refused() {
        ShapeSearch x = new ShapeSearch();
        int a = x.name(0, NONE, NONE, NONE);
        int hole = x.leaf(0, true);
        int holed = x.name(1, hole, NONE, NONE);
        CHECKS.due("no conclusion", BOUNDS, () -> x.state(NONE, NONE, NONE, NONE, NONE));
        CHECKS.due("conclusion too great", BOUNDS, () -> x.state(a, NONE, NONE, NONE, 3));
        CHECKS.due("premise -2", BOUNDS, () -> x.state(-2, NONE, NONE, NONE, a));
        CHECKS.due("premise b too great", BOUNDS, () -> x.state(a, 3, NONE, NONE, a));
        CHECKS.due("premise c too great", BOUNDS, () -> x.state(a, a, 3, NONE, a));
        CHECKS.due("premise d too great", BOUNDS, () -> x.state(a, a, a, 3, a));
        CHECKS.due("hole in the conclusion", ARGUMENT, () -> x.state(a, NONE, NONE, NONE, holed));
        CHECKS.due("hole is the conclusion", ARGUMENT, () -> x.state(NONE, NONE, NONE, NONE, hole));
        CHECKS.due("hole in a", ARGUMENT, () -> x.state(holed, NONE, NONE, NONE, a));
        CHECKS.due("hole in b", ARGUMENT, () -> x.state(a, holed, NONE, NONE, a));
        CHECKS.due("hole in c", ARGUMENT, () -> x.state(a, a, holed, NONE, a));
        CHECKS.due("hole in d", ARGUMENT, () -> x.state(a, a, a, holed, a));
        CHECKS.due("no term ahead of a hole", BOUNDS, () -> x.state(holed, 3, NONE, NONE, a));
        CHECKS.due("no conclusion ahead of a hole", BOUNDS, () -> x.state(holed, NONE, NONE, NONE, 9));
        CHECKS.due("none was made", 0, () -> x.about(1));
        CHECKS.due("behind NONE no term", 0, () -> x.state(NONE, 3, -7, 99, a));
        CHECKS.due("behind NONE a hole", 1, () -> x.state(a, NONE, holed, hole, a));
        CHECKS.due("four premises", 2, () -> x.state(a, a, a, a, a));
        x.fit(a);
        CHECKS.due("premises of 0", 0, () -> x.hit(0, 2));
        CHECKS.due("premises of 1", 1, () -> x.hit(1, 2));
        CHECKS.due("premises of 2", 4, () -> x.hit(2, 2));
    }

    private static void thirty() {
        ShapeSearch x = new ShapeSearch();
        int a = x.name(0, NONE, NONE, NONE);
        int hole = x.leaf(0, true);
        for (int s = 0; s < 30; s++) {
            int due = s;
            CHECKS.due("statement " + s, due, () -> x.state(NONE, NONE, NONE, NONE, a));
        }
        CHECKS.due("the 31st", STATE, () -> x.state(NONE, NONE, NONE, NONE, a));
        CHECKS.due("no term ahead of the 31st", BOUNDS, () -> x.state(NONE, NONE, NONE, NONE, 2));
        CHECKS.due("a hole ahead of the 31st", ARGUMENT, () -> x.state(NONE, NONE, NONE, NONE, hole));
        CHECKS.due("about 30", 30, () -> x.about(1));
        CHECKS.due("find all", 30, () -> x.find(a));
        CHECKS.due("fit all", 30, () -> x.fit(a));
        CHECKS.due("rank all", 30, () -> x.rank(a));
        CHECKS.due("hit 29", 29, () -> x.hit(29, 0));
        CHECKS.due("hit 30", NONE, () -> x.hit(30, 0));
        CHECKS.due("forget one", true, () -> x.forget());
        CHECKS.due("the 30th anew", 29, () -> x.state(NONE, NONE, NONE, NONE, a));
    }

    private static void forgetting() {
        ShapeSearch x = new ShapeSearch();
        int a = x.name(0, NONE, NONE, NONE);
        int b = x.name(1, NONE, NONE, NONE);
        x.state(NONE, NONE, NONE, NONE, a);
        x.state(NONE, NONE, NONE, NONE, b);
        CHECKS.due("forget b", true, () -> x.forget());
        CHECKS.due("b is not found", 0, () -> x.find(b));
        CHECKS.due("a is found", 1, () -> x.find(a));
        CHECKS.due("forget a", true, () -> x.forget());
        CHECKS.due("hits went", NONE, () -> x.hit(0, 0));
        CHECKS.due("nothing to forget", false, () -> x.forget());
        CHECKS.due("no statements", 0, () -> x.about(1));
        CHECKS.due("from 0 again", 0, () -> x.state(NONE, NONE, NONE, NONE, b));
    }

    private static void hitsStayWhenRefused() {
        ShapeSearch x = new ShapeSearch();
        int a = x.name(0, NONE, NONE, NONE);
        int hole = x.leaf(0, true);
        x.state(NONE, NONE, NONE, NONE, a);
        x.find(hole);
        Checks.answerOf(() -> x.state(NONE, NONE, NONE, NONE, 9));
        Checks.answerOf(() -> x.state(NONE, NONE, NONE, NONE, hole));
        Checks.answerOf(() -> x.find(9));
        Checks.answerOf(() -> x.fit(hole));
        Checks.answerOf(() -> x.rank(-1));
        x.follows(a, 3);
        x.twin(0);
        x.leaf(1, false);
        CHECKS.due("hits stay", 1, () -> x.about(3));
        CHECKS.due("the hole's term stays", a, () -> x.hit(0, 4));
        x.state(NONE, NONE, NONE, NONE, a);
        CHECKS.due("hits go with state()", 0, () -> x.about(3));
        CHECKS.due("and can't be asked", NONE, () -> x.hit(0, 0));
    }

    private static void twins() {
        ShapeSearch x = new ShapeSearch();
        int v = x.leaf(0, false);
        int w = x.leaf(1, false);
        int u = x.leaf(7, false);
        int a = x.name(0, NONE, NONE, NONE);
        int vw = x.name(1, v, w, NONE);
        int wv = x.name(1, w, v, NONE);
        int vv = x.name(1, v, v, NONE);
        int uu = x.name(1, u, u, NONE);
        int uv = x.name(1, u, v, NONE);
        int av = x.name(1, a, v, NONE);
        int aw = x.name(1, a, w, NONE);
        int aa = x.name(1, a, a, NONE);
        int[] conclusions = {vw, wv, vv, uu, uv, av, aw, aa, v, u, a, a};
        int[] due = {NONE, 0, NONE, 2, 0, NONE, 5, NONE, NONE, 8, NONE, 10};
        for (int conclusion : conclusions) {
            x.state(NONE, NONE, NONE, NONE, conclusion);
        }
        for (int s = 0; s < due.length; s++) {
            int i = s;
            CHECKS.due("twin(" + s + ")", due[s], () -> x.twin(i));
        }
        for (int s : new int[] {-1, 12, 30, Integer.MIN_VALUE, Integer.MAX_VALUE}) {
            CHECKS.due("twin(" + s + ")", BOUNDS, () -> x.twin(s));
        }
    }

    private static void twinsOfPremises() {
        ShapeSearch x = new ShapeSearch();
        int v = x.leaf(0, false);
        int w = x.leaf(1, false);
        int fv = x.name(0, v, NONE, NONE);
        int fw = x.name(0, w, NONE, NONE);
        int gv = x.name(1, v, NONE, NONE);
        x.state(fv, gv, NONE, NONE, v);
        x.state(gv, fv, NONE, NONE, v);
        x.state(fw, gv, NONE, NONE, v);
        x.state(fv, x.name(1, w, NONE, NONE), NONE, NONE, w);
        x.state(fw, x.name(1, w, NONE, NONE), NONE, NONE, w);
        x.state(fv, gv, gv, NONE, v);
        x.state(fw, gv, NONE, NONE, w);
        int[] due = {NONE, NONE, NONE, 2, 0, NONE, NONE};
        for (int s = 0; s < due.length; s++) {
            int i = s;
            CHECKS.due("twin of premises (" + s + ")", due[s], () -> x.twin(i));
        }
    }

    private static void twinsOfGreatTerms() {
        ShapeSearch x = new ShapeSearch();
        int one = x.leaf(0, false);
        int other = x.leaf(1, false);
        int third = x.name(0, one, one, other);
        for (int i = 0; i < 40; i++) {
            one = x.name(0, one, one, one);
            other = x.name(0, other, other, other);
        }
        x.state(NONE, NONE, NONE, NONE, one);
        x.state(third, NONE, NONE, NONE, one);
        x.state(NONE, NONE, NONE, NONE, other);
        CHECKS.due("twin of a great term", 0, () -> x.twin(2));
        CHECKS.due("no twin of a great term", NONE, () -> x.twin(1));
    }
}
