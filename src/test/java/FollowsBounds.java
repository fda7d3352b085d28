import java.util.List;
import java.util.function.Supplier;

/** Boundary cases of the promises 13 and 14: follows, tried. */
final class FollowsBounds {
    private static final int NONE = ShapeSearch.NONE;
    private static final int LEAST = Integer.MIN_VALUE;
    private static final int GREATEST = Integer.MAX_VALUE;

    private static final String STEPS = "Whether a goal FOLLOWS in so many steps (more than 100 count as 100).";
    private static final String THROWS =
            "Exceptions as for fit(); then UnsupportedOperationException: more than 1000 TRIES.";
    private static final String TRIED = "Of the latest follows(): TRIES (what = 0; 1000 if it threw for them), how many"
            + " statements were taken, each time one (1; 0 if it does not follow), the first one (2; NONE likewise).";

    // The goal of counting(), behind 0 and the 83 terms with s.
    private static final int COUNTED = 84;

    private final Boundaries b;

    FollowsBounds(Boundaries b) {
        this.b = b;
    }

    void run() {
        noSteps();
        noStatements();
        exactlySoManySteps();
        hundredSteps();
        fewerPremisesFirst();
        refusedGoals();
        thousandTries();
        triesUsedUp();
        afterTriesUsedUp();
        noTermsMade();
        noTermsMadeAmongHundred();
        triesCountEachLook();
        triedOfTaken();
        triedOfLatest();
        triedAnotherWhat();
    }

    private void follow(ShapeSearch x, String of, int goal, int steps, Object due, int... tried) {
        b.due(of + ": follows(" + goal + ", " + steps + ")", due, () -> x.follows(goal, steps));
        b.dueTried(x, of, tried);
    }

    private void noSteps() {
        b.terms("A goal FOLLOWS in d steps if d is above 0 and some statement that fits it, and has nothing open, has"
                + " new goals that all follow in d - 1 steps.");
        ShapeSearch x = Libraries.some();
        for (int steps : new int[] {0, -1, -2, LEAST}) {
            follow(x, "a stated goal", Libraries.A, steps, false, 0, 0, NONE);
        }
        follow(x, "one step, no premise", Libraries.A, 1, true, 2, 1, 3);
        follow(x, "one step, one premise", Libraries.FA, 1, false, 4, 0, NONE);
        follow(x, "two steps, one premise", Libraries.FA, 2, true, 4 + 2, 2, 1);
        ShapeSearch open = Libraries.someTerms();
        open.state(Libraries.W, NONE, NONE, NONE, Libraries.FV);
        open.state(NONE, NONE, NONE, NONE, Libraries.A);
        follow(open, "the one that fits has something open", Libraries.FA, 100, false, 2, 0, NONE);
    }

    private void noStatements() {
        b.promise(13, STEPS);
        ShapeSearch x = Libraries.withoutStatements();
        for (int steps : new int[] {0, 1, 100, GREATEST}) {
            follow(x, "no statement", Libraries.A, steps, false, 0, 0, NONE);
        }
        ShapeSearch y = Libraries.some();
        follow(y, "none fits", Libraries.GVW, 100, false, 4, 0, NONE);
    }

    /** p(s(v)) from p(v), and p(0): p of n times s follows in n + 1 steps. */
    private void exactlySoManySteps() {
        b.promise(13, STEPS);
        ShapeSearch x = new ShapeSearch();
        int v = x.leaf(0, false);
        int zero = x.name(0, NONE, NONE, NONE);
        x.state(x.name(1, v, NONE, NONE), NONE, NONE, NONE, x.name(1, x.name(2, v, NONE, NONE), NONE, NONE));
        x.state(NONE, NONE, NONE, NONE, x.name(1, zero, NONE, NONE));
        int n = zero;
        for (int i = 0; i < 8; i++) {
            int goal = x.name(1, n, NONE, NONE);
            follow(x, i + " times s, a step too few", goal, i, false, 2 * i, 0, NONE);
            follow(x, i + " times s, just enough", goal, i + 1, true, 2 * i + 1, i + 1, i == 0 ? 1 : 0);
            follow(x, i + " times s, one step more", goal, i + 2, true, 2 * i + 1, i + 1, i == 0 ? 1 : 0);
            n = x.name(2, n, NONE, NONE);
        }
    }

    /** p(s(v)) from q(v), q(v) from p(v), and p(0): q of n times s follows in 2 n + 2 steps, p in 2 n + 1. */
    private void hundredSteps() {
        b.promise(13, STEPS);
        ShapeSearch x = new ShapeSearch();
        int v = x.leaf(0, false);
        int n = x.name(0, NONE, NONE, NONE);
        int pv = x.name(1, v, NONE, NONE);
        int qv = x.name(3, v, NONE, NONE);
        x.state(NONE, NONE, NONE, NONE, x.name(1, n, NONE, NONE));
        x.state(qv, NONE, NONE, NONE, x.name(1, x.name(2, v, NONE, NONE), NONE, NONE));
        x.state(pv, NONE, NONE, NONE, qv);
        for (int i = 0; i < 49; i++) {
            n = x.name(2, n, NONE, NONE);
        }
        int hundred = x.name(3, n, NONE, NONE);
        int more = x.name(1, x.name(2, n, NONE, NONE), NONE, NONE);
        int tries = 50 * 3 + 49 * 2 + 1;
        follow(x, "a goal of a hundred steps", hundred, 99, false, 50 * 3 + 49 * 3, 0, NONE);
        for (int steps : new int[] {100, 101, 200, GREATEST}) {
            follow(x, "a goal of a hundred steps", hundred, steps, true, tries, 100, 2);
        }
        for (int steps : new int[] {99, 100, 101, 102, GREATEST}) {
            b.due("a goal of 101 steps: follows(" + more + ", " + steps + ")", false, () -> x.follows(more, steps));
            b.due("no statement was taken", 0, () -> x.tried(1));
        }
    }

    private void fewerPremisesFirst() {
        b.terms("Statements with fewer premises are tried first, of as many those with lesser numbers; new goals in"
                + " order; the first statement all of whose new goals follow is taken.");
        ShapeSearch x = new ShapeSearch();
        int a = x.name(0, NONE, NONE, NONE);
        int f = x.name(1, NONE, NONE, NONE);
        x.state(f, f, f, f, a);
        x.state(f, f, f, NONE, a);
        x.state(f, f, NONE, NONE, a);
        x.state(f, NONE, NONE, NONE, a);
        x.state(NONE, NONE, NONE, NONE, f);
        follow(x, "one premise ahead of two", a, 2, true, 2 + 1, 2, 3);
        x.state(NONE, NONE, NONE, NONE, a);
        follow(x, "none ahead of one", a, 2, true, 2, 1, 5);
        x.state(NONE, NONE, NONE, NONE, a);
        follow(x, "of two without a premise the lesser number", a, 2, true, 2, 1, 5);
        ShapeSearch y = new ShapeSearch();
        y.name(0, NONE, NONE, NONE);
        y.name(1, NONE, NONE, NONE);
        y.name(2, NONE, NONE, NONE);
        y.state(1, 1, 1, 2, 0);
        y.state(1, 1, 1, 1, 0);
        y.state(NONE, NONE, NONE, NONE, 1);
        follow(y, "the last of four new goals does not follow", 0, 2, true, 2 + 3 + 3 + 1 + 4, 5, 1);
        y.forget();
        follow(y, "the first new goal does not follow: no other is looked at", 0, 100, false, 2 + 2 + 2, 0, NONE);
    }

    private void refusedGoals() {
        b.promise(13, THROWS);
        for (int t : new int[] {NONE, -2, LEAST, Libraries.SOME_TERMS, 99, 100, GREATEST}) {
            b.refused("follows(" + t + ", 1)", Boundaries.BOUNDS, Libraries::some, x -> x.follows(t, 1));
            b.refused("follows(" + t + ", 0)", Boundaries.BOUNDS, Libraries::some, x -> x.follows(t, 0));
        }
        for (int steps : new int[] {LEAST, 0, 1, 100, GREATEST}) {
            b.refused("a hole, " + steps + " steps", Boundaries.ARGUMENT, Libraries::some,
                    x -> x.follows(Libraries.HOLE, steps));
            b.refused("f of a hole, " + steps + " steps", Boundaries.ARGUMENT, Libraries::some,
                    x -> x.follows(Libraries.F_HOLE, steps));
        }
        b.refused("among a hundred: follows(100, 1)", Boundaries.BOUNDS, Libraries::fullOfTerms,
                x -> x.follows(100, 1));
        b.refused("no statement, a hole", Boundaries.ARGUMENT, Libraries::withoutStatements,
                x -> x.follows(Libraries.HOLE, 1));
        b.refused("no statement, no term", Boundaries.BOUNDS, Libraries::withoutStatements, x -> x.follows(9, 1));
    }

    private void thousandTries() {
        b.promise(13, THROWS);
        follow(counting(2), "it follows at the 999th try", COUNTED, 100, true, 999, 84, 11);
        follow(counting(3), "it follows at the 1000th try", COUNTED, 100, true, 1000, 84, 11);
        follow(counting(4), "it would follow at the 1001st try", COUNTED, 100, Boundaries.UNSUPPORTED, 1000, 0, NONE);
        follow(counting(4), "in a step fewer it does not follow", COUNTED, 83, false, 996, 0, NONE);
        ShapeSearch x = looping(10);
        follow(x, "ten statements, 99 steps", 0, 99, false, 990, 0, NONE);
        follow(x, "ten statements, 100 steps", 0, 100, false, 1000, 0, NONE);
        follow(x, "ten statements, more steps", 0, GREATEST, false, 1000, 0, NONE);
        ShapeSearch y = looping(11);
        follow(y, "eleven statements, 90 steps", 0, 90, false, 990, 0, NONE);
        follow(y, "eleven statements, 91 steps", 0, 91, Boundaries.UNSUPPORTED, 1000, 0, NONE);
        follow(y, "eleven statements, 100 steps", 0, 100, Boundaries.UNSUPPORTED, 1000, 0, NONE);
    }

    /**
     * Eleven statements without a premise, of which p(0) is the one behind so many, and p(s(v)) from p(v), the
     * twelfth; COUNTED is p of 83 times s: it follows at the try 12 * 83 + 1 + so many, in 84 steps.
     */
    private static ShapeSearch counting(int ahead) {
        ShapeSearch x = new ShapeSearch();
        int s = x.name(0, NONE, NONE, NONE);
        int zero = s;
        for (int i = 0; i < 83; i++) {
            s = x.name(2, s, NONE, NONE);
        }
        x.name(1, s, NONE, NONE);
        int v = x.leaf(0, false);
        int pv = x.name(1, v, NONE, NONE);
        int psv = x.name(1, x.name(2, v, NONE, NONE), NONE, NONE);
        int pzero = x.name(1, zero, NONE, NONE);
        for (int i = 0; i < 11; i++) {
            x.state(NONE, NONE, NONE, NONE, i == ahead ? pzero : zero);
        }
        x.state(pv, NONE, NONE, NONE, psv);
        return x;
    }

    /** So many statements, of which the last, a from a, is the only one that fits a, term 0. */
    private static ShapeSearch looping(int many) {
        ShapeSearch x = new ShapeSearch();
        int a = x.name(0, NONE, NONE, NONE);
        int other = x.name(1, NONE, NONE, NONE);
        for (int s = 1; s < many; s++) {
            x.state(NONE, NONE, NONE, NONE, other);
        }
        x.state(a, NONE, NONE, NONE, a);
        return x;
    }

    private void triesUsedUp() {
        b.promise(13, THROWS);
        ShapeSearch x = new ShapeSearch();
        int a = x.name(0, NONE, NONE, NONE);
        for (int s = 0; s < 30; s++) {
            x.state(a, a, a, a, a);
        }
        follow(x, "thirty statements, one step", a, 1, false, 30, 0, NONE);
        follow(x, "thirty statements, two steps", a, 2, false, 930, 0, NONE);
        follow(x, "thirty statements, three steps", a, 3, Boundaries.UNSUPPORTED, 1000, 0, NONE);
        follow(x, "thirty statements, all steps", a, GREATEST, Boundaries.UNSUPPORTED, 1000, 0, NONE);
        follow(x, "the tries begin anew", a, 2, false, 930, 0, NONE);
        x.forget();
        x.state(NONE, NONE, NONE, NONE, a);
        follow(x, "it follows at once", a, 100, true, 1, 1, 29);
        b.due("one term", 1, () -> x.about(0));
    }

    private void afterTriesUsedUp() {
        b.promise(13, THROWS);
        Supplier<ShapeSearch> made = FollowsBounds::someLooping;
        ShapeSearch x = made.get();
        follow(x, "too many tries", Libraries.GVW, 100, Boundaries.UNSUPPORTED, 1000, 0, NONE);
        b.due("the hits stay", Libraries.SOME_HITS, () -> x.about(3));
        b.due("their terms stay", Libraries.A, () -> x.hit(1, 4));
        List<String> before = Answers.of(() -> followedBy(made.get()));
        b.due("all answers, behind another follows()", before, () -> Answers.of(() -> {
            ShapeSearch y = made.get();
            Checks.answerOf(() -> y.follows(Libraries.GVW, 100));
            return followedBy(y);
        }));
    }

    /** As some(), with g(v, w) from g(f(v), w), twice. */
    private static ShapeSearch someLooping() {
        ShapeSearch x = Libraries.some();
        int deeper = x.name(2, Libraries.FV, Libraries.W, NONE);
        x.state(deeper, NONE, NONE, NONE, Libraries.GVW);
        x.state(deeper, NONE, NONE, NONE, Libraries.GVW);
        x.fit(Libraries.FA);
        return x;
    }

    private static ShapeSearch followedBy(ShapeSearch x) {
        x.follows(Libraries.A, 1);
        return x;
    }

    private void noTermsMade() {
        b.promise(13, "(No terms are made.)");
        ShapeSearch x = new ShapeSearch();
        int v = x.leaf(0, false);
        int a = x.name(0, NONE, NONE, NONE);
        int pv = x.name(1, v, NONE, NONE);
        int qv = x.name(2, v, NONE, NONE);
        int pa = x.name(1, a, NONE, NONE);
        x.state(qv, NONE, NONE, NONE, pv);
        x.state(NONE, NONE, NONE, NONE, qv);
        follow(x, "q(a) is a new goal on the way", pa, 2, true, 3, 2, 0);
        b.due("terms", 5, () -> x.about(0));
        b.due("no term 5", NONE, () -> x.term(5, 0));
        follow(x, "the same again", pa, 2, true, 3, 2, 0);
        b.due("the next term is 5", 5, () -> x.leaf(7, false));
        b.due("q(a) is made behind it", 6, () -> x.name(2, a, NONE, NONE));
        follow(x, "the same with q(a)", pa, 2, true, 3, 2, 0);
        ShapeSearch y = someLooping();
        Checks.answerOf(() -> y.follows(Libraries.GVW, 100));
        b.due("none by one that throws", Libraries.SOME_TERMS + 1, () -> y.about(0));
        b.due("the next one has the next number", Libraries.SOME_TERMS + 1, () -> y.leaf(7, false));
        y.follows(Libraries.GVW, 5);
        b.due("none by one that does not follow", Libraries.SOME_TERMS + 2, () -> y.about(0));
    }

    private void noTermsMadeAmongHundred() {
        b.promise(13, "(No terms are made.)");
        ShapeSearch x = new ShapeSearch();
        int v = x.leaf(0, false);
        int deep = v;
        for (int i = 0; i < 94; i++) {
            deep = x.name(2, deep, NONE, NONE);
        }
        int a = x.name(0, NONE, NONE, NONE);
        int pv = x.name(1, v, NONE, NONE);
        int goal = x.name(1, a, NONE, NONE);
        x.state(x.name(1, deep, NONE, NONE), NONE, NONE, NONE, pv);
        x.name(9, NONE, NONE, NONE);
        b.due("a hundred terms", 100, () -> x.about(0));
        follow(x, "each step needs 95 terms more, a hundred times", goal, 100, false, 100, 0, NONE);
        b.due("still a hundred", 100, () -> x.about(0));
        x.state(NONE, NONE, NONE, NONE, v);
        follow(x, "any goal follows", goal, 100, true, 1, 1, 1);
        b.due("the 101st is still refused", Boundaries.STATE, () -> x.name(2, goal, NONE, NONE));
        b.due("those that there are have their numbers", goal, () -> x.name(1, a, NONE, NONE));
    }

    private void triesCountEachLook() {
        b.terms("TRIES: each statement that is looked at whether it fits counts one, all in all.");
        ShapeSearch x = Libraries.someTerms();
        follow(x, "no statement", Libraries.A, 3, false, 0, 0, NONE);
        x.state(NONE, NONE, NONE, NONE, Libraries.A);
        follow(x, "one that fits", Libraries.A, 3, true, 1, 1, 0);
        follow(x, "one that does not", Libraries.GVW, 3, false, 1, 0, NONE);
        x.state(Libraries.W, NONE, NONE, NONE, Libraries.FV);
        follow(x, "one with something open counts", Libraries.FA, 3, false, 2, 0, NONE);
        x.state(Libraries.V, Libraries.V, Libraries.V, Libraries.V, Libraries.FV);
        follow(x, "one that fits without a step for its new goals", Libraries.FA, 1, false, 3, 0, NONE);
        follow(x, "the same new goal four times counts four times", Libraries.FA, 2, true, 3 + 4, 5, 2);
    }

    private void triedOfTaken() {
        b.promise(14, TRIED);
        ShapeSearch x = Libraries.some();
        follow(x, "one is taken", Libraries.A, 1, true, 2, 1, 3);
        follow(x, "two are taken: the first is the goal's own", Libraries.FA, 2, true, 4 + 2, 2, 1);
        follow(x, "it does not follow", Libraries.FA, 1, false, 4, 0, NONE);
        follow(x, "no steps", Libraries.A, 0, false, 0, 0, NONE);
        ShapeSearch y = new ShapeSearch();
        y.name(0, NONE, NONE, NONE);
        y.name(1, NONE, NONE, NONE);
        y.state(1, 1, 1, 1, 0);
        y.state(0, 0, 0, 0, 1);
        y.state(NONE, NONE, NONE, NONE, 1);
        follow(y, "one that is taken four times counts four times", 0, 2, true, 2 + 4, 5, 0);
        ShapeSearch z = new ShapeSearch();
        z.name(0, NONE, NONE, NONE);
        z.name(1, NONE, NONE, NONE);
        z.name(2, NONE, NONE, NONE);
        z.state(1, 2, NONE, NONE, 0);
        z.state(1, 1, 1, NONE, 0);
        z.state(NONE, NONE, NONE, NONE, 1);
        follow(z, "those of a way that is left again don't count", 0, 2, true, 2 + 1 + 3 + 1 + 3, 4, 1);
    }

    private void triedOfLatest() {
        b.promise(14, TRIED);
        b.dueTried(new ShapeSearch(), "no follows() yet", 0, 0, NONE);
        ShapeSearch x = Libraries.some();
        dueTriedOfSome(x, "behind other calls");
        x.state(NONE, NONE, NONE, NONE, Libraries.FA);
        x.forget();
        x.forget();
        x.find(0);
        x.rank(0);
        dueTriedOfSome(x, "behind other calls still");
        Checks.answerOf(() -> x.follows(NONE, 1));
        dueTriedOfSome(x, "behind one that was refused, no such term");
        Checks.answerOf(() -> x.follows(Libraries.HOLE, 1));
        dueTriedOfSome(x, "behind one that was refused, a hole");
        follow(x, "another", Libraries.FA, 2, false, 3 + 3, 0, NONE);
        ShapeSearch y = looping(11);
        y.follows(1, 1);
        b.dueTried(y, "ahead of one that throws", 1, 1, 0);
        Checks.answerOf(() -> y.follows(0, 100));
        b.dueTried(y, "it threw for its tries", 1000, 0, NONE);
        y.follows(1, 1);
        b.dueTried(y, "behind one that throws", 1, 1, 0);
    }

    private void dueTriedOfSome(ShapeSearch x, String behind) {
        b.dueTried(x, behind, Libraries.SOME_TRIES, Libraries.SOME_TAKEN, Libraries.SOME_FIRST);
    }

    private void triedAnotherWhat() {
        b.promise(14, "NONE for another what.");
        ShapeSearch used = looping(11);
        Checks.answerOf(() -> used.follows(0, 100));
        for (int what : new int[] {NONE, -2, LEAST, 3, 4, 100, GREATEST}) {
            b.due("new: tried(" + what + ")", NONE, () -> new ShapeSearch().tried(what));
            b.due("it follows: tried(" + what + ")", NONE, () -> Libraries.some().tried(what));
            b.due("it threw: tried(" + what + ")", NONE, () -> used.tried(what));
        }
    }
}
