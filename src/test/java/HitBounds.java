import java.util.function.Supplier;

/** Boundary cases of the promises 10 and 11: hit, goal. */
final class HitBounds {
    private static final int NONE = ShapeSearch.NONE;
    private static final int LEAST = Integer.MIN_VALUE;
    private static final int GREATEST = Integer.MAX_VALUE;

    private static final String HIT = "Of hit i: its statement (what = 0); of find() which premise has the first match,"
            + " NONE the conclusion (1), the term there (2), the terms of holes 0 .. 3 (4 .. 7; NONE of such as are not"
            + " in the shape); of fit() how many variables are open (1), its premises (2), the terms of variables"
            + " 0 .. 7 (4 .. 11; NONE of such as are not in the conclusion); of rank() both parts of its likeness, not"
            + " shortened (1, 2).";
    private static final String NO_HIT = "NONE if there is none such, or for another what; hits go with the next"
            + " state(), forget(), and find(), fit(), rank() that don't throw.";
    private static final String GOAL = "New goal k of hit i of fit(): its number; terms are made for it, from within,"
            + " first places first; open variables stay.";

    private final Boundaries b;

    HitBounds(Boundaries b) {
        this.b = b;
    }

    void run() {
        hitOfFind();
        hitOfFit();
        openVariables();
        hitOfRank();
        noSuchHit();
        anotherWhat();
        hitsGo();
        hitsStayWhenRefused();
        hitsStayOtherwise();
        newGoalsOfFour();
        madeFromWithin();
        openVariablesStay();
        noSuchGoal();
        noFittingHits();
        noRoomForGoal();
        someRoomForGoal();
    }

    private void hitOfFind() {
        b.promise(10, HIT);
        ShapeSearch x = Libraries.someTerms();
        int hole3 = x.leaf(3, true);
        int shape = x.name(3, hole3, Libraries.HOLE, Libraries.W);
        x.state(Libraries.A, Libraries.A, Libraries.A, Libraries.HAVW, Libraries.A);
        x.state(Libraries.HAVW, NONE, NONE, NONE, Libraries.HAVW);
        x.find(shape);
        b.dueHits(x, "the last premise, holes 0 and 3", 0,
                0, 3, Libraries.HAVW, NONE, Libraries.V, NONE, NONE, Libraries.A, NONE, NONE);
        b.dueHits(x, "the conclusion, holes 0 and 3", 1,
                1, NONE, Libraries.HAVW, NONE, Libraries.V, NONE, NONE, Libraries.A, NONE, NONE);
        x.find(Libraries.W);
        b.dueHits(x, "no hole in the shape", 0, 0, 3, Libraries.W, NONE, NONE, NONE, NONE, NONE, NONE, NONE);
    }

    private void hitOfFit() {
        b.promise(10, HIT);
        ShapeSearch x = new ShapeSearch();
        int pattern = x.name(0, NONE, NONE, NONE);
        int goal = pattern;
        for (int v = 0; v < 8; v++) {
            pattern = x.name(1, x.leaf(v, false), pattern, NONE);
            goal = x.name(1, x.name(2 + v, NONE, NONE, NONE), goal, NONE);
        }
        int eight = goal;
        x.state(NONE, NONE, NONE, NONE, pattern);
        x.state(NONE, NONE, NONE, NONE, x.leaf(7, false));
        x.state(NONE, NONE, NONE, NONE, goal);
        b.due("fit", 3, () -> x.fit(eight));
        b.dueHits(x, "all eight variables", 0, 0, 0, 0, NONE, x.name(2, NONE, NONE, NONE),
                x.name(3, NONE, NONE, NONE), x.name(4, NONE, NONE, NONE), x.name(5, NONE, NONE, NONE),
                x.name(6, NONE, NONE, NONE), x.name(7, NONE, NONE, NONE), x.name(8, NONE, NONE, NONE),
                x.name(9, NONE, NONE, NONE), NONE);
        b.dueHits(x, "the last variable alone", 1,
                1, 0, 0, NONE, NONE, NONE, NONE, NONE, NONE, NONE, NONE, eight, NONE);
        b.dueHits(x, "no variable", 2, 2, 0, 0, NONE, NONE, NONE, NONE, NONE, NONE, NONE, NONE, NONE, NONE);
    }

    private void openVariables() {
        b.terms("A variable that stands in a premise but not in the conclusion is OPEN.");
        ShapeSearch x = new ShapeSearch();
        int a = x.name(0, NONE, NONE, NONE);
        int all = a;
        for (int v = 0; v < 8; v++) {
            all = x.name(1, x.leaf(v, false), all, NONE);
        }
        int v0 = x.leaf(0, false);
        x.state(a, all, all, all, a);
        x.state(v0, v0, NONE, NONE, a);
        x.state(v0, all, NONE, NONE, v0);
        x.state(v0, v0, v0, v0, v0);
        x.state(NONE, NONE, NONE, NONE, v0);
        b.due("fit", 5, () -> x.fit(a));
        b.dueHits(x, "no premise", 0, 4, 0, 0, NONE, a);
        b.dueHits(x, "one, twice", 1, 1, 1, 2, NONE, NONE);
        b.dueHits(x, "all but the conclusion's", 2, 2, 7, 2, NONE, a, NONE, NONE, NONE, NONE, NONE, NONE, NONE);
        b.dueHits(x, "all eight", 3, 0, 8, 4, NONE, NONE, NONE, NONE, NONE, NONE, NONE, NONE, NONE);
        b.dueHits(x, "none", 4, 3, 0, 4, NONE, a);
    }

    private void hitOfRank() {
        b.promise(10, HIT);
        ShapeSearch x = Libraries.some();
        x.rank(Libraries.HAVW);
        b.dueHits(x, "2 of 2", 0, 2, 2, 2, NONE, NONE, NONE, NONE, NONE, NONE, NONE, NONE, NONE, NONE);
        b.dueHits(x, "1 of 2", 1, 3, 1, 2, NONE, NONE);
        b.dueHits(x, "0 of 4", 2, 0, 0, 4, NONE, NONE);
        b.dueHits(x, "0 of 3", 3, 1, 0, 3, NONE, NONE);
        int shared = x.name(2, Libraries.FA, Libraries.HAVW, NONE);
        x.state(NONE, NONE, NONE, NONE, shared);
        x.rank(x.name(1, Libraries.HAVW, NONE, NONE));
        b.dueHits(x, "3 of 4", 0, 4, 3, 4);
        b.dueHits(x, "2 of 3", 1, 2, 2, 3);
        b.dueHits(x, "1 of 3, lesser number", 2, 1, 1, 3);
        b.dueHits(x, "1 of 3, greater number", 3, 3, 1, 3);
        b.dueHits(x, "1 of 4", 4, 0, 1, 4);
    }

    private void noSuchHit() {
        b.promise(10, NO_HIT);
        ShapeSearch fitting = Libraries.some();
        ShapeSearch found = Libraries.some();
        found.find(Libraries.F_HOLE);
        ShapeSearch ranked = Libraries.some();
        ranked.rank(Libraries.FA);
        for (int what = 0; what < 12; what++) {
            int w = what;
            for (int i : new int[] {NONE, -2, LEAST, 4, 5, 29, 30, GREATEST}) {
                b.due("fit: hit(" + i + ", " + w + ")", NONE, () -> fitting.hit(i, w));
                b.due("find: hit(" + i + ", " + w + ")", NONE, () -> found.hit(i, w));
                b.due("rank: hit(" + i + ", " + w + ")", NONE, () -> ranked.hit(i, w));
                b.due("no hits: hit(" + i + ", " + w + ")", NONE, () -> new ShapeSearch().hit(i, w));
            }
            b.due("of two hits: hit(2, " + w + ")", NONE, () -> fitting.hit(2, w));
        }
        b.due("the last of two", 1, () -> fitting.hit(1, 0));
        b.due("the last of four", 2, () -> ranked.hit(3, 0));
    }

    private void anotherWhat() {
        b.promise(10, NO_HIT);
        ShapeSearch x = Libraries.some();
        for (int what : new int[] {NONE, -2, LEAST, 3, 12, 13, GREATEST}) {
            b.due("fit: hit(0, " + what + ")", NONE, () -> x.hit(0, what));
        }
        ShapeSearch y = Libraries.some();
        y.find(Libraries.F_HOLE);
        for (int what : new int[] {NONE, -2, LEAST, 3, 5, 7, 8, 9, 11, 12, GREATEST}) {
            b.due("find: hit(0, " + what + ")", NONE, () -> y.hit(0, what));
        }
        ShapeSearch z = Libraries.some();
        z.rank(Libraries.FA);
        for (int what : new int[] {NONE, -2, LEAST, 3, 4, 5, 7, 8, 11, 12, GREATEST}) {
            b.due("rank: hit(0, " + what + ")", NONE, () -> z.hit(0, what));
        }
    }

    private void hitsGo() {
        b.promise(10, NO_HIT);
        gone("state()", x -> x.state(NONE, NONE, NONE, NONE, Libraries.FA));
        gone("forget()", x -> x.forget());
        gone("find() that finds none", x -> x.find(Libraries.FA));
        gone("fit() that nothing fits", x -> x.fit(Libraries.GVW));
        ShapeSearch x = Libraries.some();
        x.rank(Libraries.FA);
        b.dueHits(x, "rank() behind fit()", 0, 1, 1, 2, NONE, NONE);
        b.due("they are no hits of fit() any more", Boundaries.BOUNDS, () -> x.goal(0, 0));
        x.find(Libraries.F_HOLE);
        b.dueHits(x, "find() behind rank()", 0, 0, NONE, Libraries.FV, NONE, Libraries.V, NONE, NONE);
        b.due("find() has fewer", 2, () -> x.about(3));
        x.fit(Libraries.FA);
        b.dueHits(x, "fit() behind find()", 1, 1, 0, 1, NONE, Libraries.A, NONE);
        x.fit(Libraries.A);
        b.dueHits(x, "fit() behind fit()", 0, 3, 0, 0, NONE, NONE, NONE);
        b.due("the second went", NONE, () -> x.hit(1, 0));
        ShapeSearch empty = Libraries.withoutStatements();
        b.due("nothing to forget", false, () -> empty.forget());
        b.due("and no hits", 0, () -> empty.about(3));
    }

    private void gone(String with, Boundaries.Use use) {
        ShapeSearch x = Libraries.some();
        b.due("hits ahead of " + with, Libraries.SOME_HITS, () -> x.about(3));
        Checks.answerOf(() -> use.on(x));
        b.due("hits behind " + with, 0, () -> x.about(3));
        b.dueHits(x, "behind " + with, 0, NONE, NONE, NONE, NONE, NONE);
        b.due("new goals behind " + with, Boundaries.BOUNDS, () -> x.goal(1, 0));
    }

    private void hitsStayWhenRefused() {
        b.promise(10, NO_HIT);
        stay("find(9)", Boundaries.BOUNDS, x -> x.find(9));
        stay("fit(9)", Boundaries.BOUNDS, x -> x.fit(9));
        stay("fit() of a hole", Boundaries.ARGUMENT, x -> x.fit(Libraries.HOLE));
        stay("rank(9)", Boundaries.BOUNDS, x -> x.rank(9));
        stay("rank() of a hole", Boundaries.ARGUMENT, x -> x.rank(Libraries.HOLE));
        stay("state() of no term", Boundaries.BOUNDS, x -> x.state(NONE, NONE, NONE, NONE, 9));
        stay("state() of a hole", Boundaries.ARGUMENT, x -> x.state(NONE, NONE, NONE, NONE, Libraries.HOLE));
        ShapeSearch full = Libraries.fullOfStatements();
        b.due("the 31st state()", Boundaries.STATE, () -> full.state(NONE, NONE, NONE, NONE, 0));
        b.due("hits behind it", 28, () -> full.about(3));
        b.dueHits(full, "behind the 31st state()", 27, 29, 0, 2, NONE, Libraries.A);
    }

    private void stay(String call, String thrown, Boundaries.Use use) {
        ShapeSearch x = Libraries.some();
        b.due(call, thrown, () -> use.on(x));
        dueHitsOfSome(x, call);
        b.refused(call, thrown, HitBounds::someFound, use);
        b.refused(call, thrown, HitBounds::someRanked, use);
    }

    private static ShapeSearch someFound() {
        ShapeSearch x = Libraries.some();
        x.find(Libraries.F_HOLE);
        return x;
    }

    private static ShapeSearch someRanked() {
        ShapeSearch x = Libraries.some();
        x.rank(Libraries.FA);
        return x;
    }

    private void dueHitsOfSome(ShapeSearch x, String behind) {
        b.due("hits behind " + behind, Libraries.SOME_HITS, () -> x.about(3));
        b.dueHits(x, "behind " + behind, 0, 0, 1, 1, NONE, Libraries.A, NONE);
        b.dueHits(x, "behind " + behind, 1, 1, 0, 1, NONE, Libraries.A, NONE);
    }

    private void hitsStayOtherwise() {
        b.promise(10, NO_HIT);
        ShapeSearch x = Libraries.some();
        x.name(9, NONE, NONE, NONE);
        x.leaf(7, false);
        x.leaf(3, true);
        x.term(0, 0);
        x.hit(0, 0);
        x.goal(0, 0);
        x.twin(3);
        x.follows(Libraries.A, 3);
        x.tried(0);
        x.about(0);
        dueHitsOfSome(x, "calls that are no search");
        Checks.answerOf(() -> x.name(30, NONE, NONE, NONE));
        Checks.answerOf(() -> x.leaf(8, false));
        Checks.answerOf(() -> x.goal(2, 0));
        Checks.answerOf(() -> x.twin(4));
        Checks.answerOf(() -> x.follows(-1, 3));
        dueHitsOfSome(x, "calls that are no search, and are refused");
    }

    private void newGoalsOfFour() {
        b.promise(11, GOAL);
        ShapeSearch x = Libraries.someTerms();
        x.state(Libraries.V, Libraries.A, Libraries.FV, Libraries.W, Libraries.GVW);
        int goal = x.name(2, Libraries.FA, Libraries.A, NONE);
        x.fit(goal);
        b.due("the first of four, a variable alone", Libraries.FA, () -> x.goal(0, 0));
        b.due("the second, without a variable", Libraries.A, () -> x.goal(0, 1));
        b.due("the last, a variable alone", Libraries.A, () -> x.goal(0, 3));
        b.due("nothing had to be made", 10, () -> x.about(0));
        b.due("the third is made", 10, () -> x.goal(0, 2));
        b.due("f(f(a))", Libraries.FA, () -> x.term(10, 2));
        b.due("once", 10, () -> x.goal(0, 2));
        b.due("eleven terms", 11, () -> x.about(0));
    }

    private void madeFromWithin() {
        b.promise(11, GOAL);
        ShapeSearch x = Libraries.someTerms();
        int inner = x.name(4, Libraries.FV, Libraries.GVW, NONE);
        int outer = x.name(4, inner, x.name(1, Libraries.W, NONE, NONE), NONE);
        int pattern = x.name(5, Libraries.V, Libraries.W, NONE);
        x.state(outer, NONE, NONE, NONE, pattern);
        int n = x.name(6, NONE, NONE, NONE);
        int goal = x.name(5, n, Libraries.A, NONE);
        int made = x.about(0);
        x.fit(goal);
        b.due("four terms are made, the outermost last", made + 3, () -> x.goal(0, 0));
        dueTerm(x, made, 1, n, NONE);
        dueTerm(x, made + 1, 2, n, Libraries.A);
        dueTerm(x, made + 2, 4, made, made + 1);
        dueTerm(x, made + 3, 4, made + 2, Libraries.FA);
        b.due("f(a) was there", made + 4, () -> x.about(0));
    }

    private void dueTerm(ShapeSearch x, int t, int name, int first, int second) {
        b.due("term(" + t + ", 1)", name, () -> x.term(t, 1));
        b.due("term(" + t + ", 2)", first, () -> x.term(t, 2));
        b.due("term(" + t + ", 3)", second, () -> x.term(t, 3));
    }

    private void openVariablesStay() {
        b.promise(11, GOAL);
        ShapeSearch x = Libraries.some();
        b.due("g(v, w) with w open", Libraries.SOME_TERMS, () -> x.goal(0, 0));
        dueTerm(x, Libraries.SOME_TERMS, 2, Libraries.A, Libraries.W);
        ShapeSearch y = Libraries.someTerms();
        y.state(Libraries.GVW, Libraries.W, Libraries.HAVW, NONE, Libraries.A);
        y.fit(Libraries.A);
        b.due("both open", Libraries.GVW, () -> y.goal(0, 0));
        b.due("a variable alone, open", Libraries.W, () -> y.goal(0, 1));
        b.due("all that is in it stays", Libraries.HAVW, () -> y.goal(0, 2));
        b.due("no term was made", Libraries.SOME_TERMS, () -> y.about(0));
    }

    private void noSuchGoal() {
        b.promise(11, "IndexOutOfBoundsException: there is none such.");
        for (int k : new int[] {NONE, -2, LEAST, 1, 2, 3, 4, GREATEST}) {
            b.refused("one premise: goal(0, " + k + ")", Boundaries.BOUNDS, Libraries::some, x -> x.goal(0, k));
        }
        for (int i : new int[] {NONE, -2, LEAST, Libraries.SOME_HITS, 3, 29, 30, GREATEST}) {
            b.refused("two hits: goal(" + i + ", 0)", Boundaries.BOUNDS, Libraries::some, x -> x.goal(i, 0));
        }
        Supplier<ShapeSearch> noPremise = HitBounds::fitsWithoutPremise;
        b.refused("no premise: goal(0, 0)", Boundaries.BOUNDS, noPremise, x -> x.goal(0, 0));
        b.refused("a hundred terms: goal(0, 1)", Boundaries.BOUNDS, Libraries::fullOfTerms, x -> x.goal(0, 1));
        ShapeSearch full = Libraries.fullOfStatements();
        b.due("the last goal of the last hit", Libraries.A, () -> full.goal(27, 1));
        b.due("none behind it", Boundaries.BOUNDS, () -> full.goal(27, 2));
        b.due("no hit behind it", Boundaries.BOUNDS, () -> full.goal(28, 0));
    }

    private static ShapeSearch fitsWithoutPremise() {
        ShapeSearch x = Libraries.some();
        x.fit(Libraries.A);
        return x;
    }

    private void noFittingHits() {
        b.promise(11, "IndexOutOfBoundsException: there is none such.");
        b.refused("no hits", Boundaries.BOUNDS, Libraries::withoutStatements, x -> x.goal(0, 0));
        b.refused("hits of find()", Boundaries.BOUNDS, HitBounds::someFound, x -> x.goal(0, 0));
        b.refused("hits of rank()", Boundaries.BOUNDS, HitBounds::someRanked, x -> x.goal(0, 0));
        ShapeSearch x = Libraries.some();
        x.state(Libraries.A, NONE, NONE, NONE, Libraries.FA);
        b.due("hits that went with state()", Boundaries.BOUNDS, () -> x.goal(0, 0));
        x.fit(Libraries.FA);
        b.due("hits again", Libraries.A, () -> x.goal(2, 0));
        x.forget();
        b.due("hits that went with forget()", Boundaries.BOUNDS, () -> x.goal(0, 0));
    }

    private void noRoomForGoal() {
        b.promise(11, "IllegalStateException: there would be more than 100 terms (those made ahead stay).");
        b.refused("g(a, w) would be the 101st", Boundaries.STATE, Libraries::fullOfTerms, x -> x.goal(0, 0));
        ShapeSearch full = Libraries.fullOfTerms();
        b.due("a new goal that there is", Libraries.A, () -> full.goal(1, 0));
        ShapeSearch nearly = Libraries.withTerms(99);
        b.due("g(a, w) is the hundredth", 99, () -> nearly.goal(0, 0));
        b.due("and is there from then on", 99, () -> nearly.goal(0, 0));
        b.due("a hundred", 100, () -> nearly.about(0));
    }

    private void someRoomForGoal() {
        b.promise(11, "IllegalStateException: there would be more than 100 terms (those made ahead stay).");
        for (int room = 0; room < 4; room++) {
            ShapeSearch x = Libraries.someTerms();
            int p = x.name(4, Libraries.V, NONE, NONE);
            int deep = x.name(6, x.name(6, x.name(6, Libraries.V, NONE, NONE), NONE, NONE), NONE, NONE);
            x.state(deep, NONE, NONE, NONE, p);
            int goal = x.name(4, Libraries.A, NONE, NONE);
            int before = fill(x, 100 - room);
            int last = room;
            x.fit(goal);
            b.due("room for " + room + " of three", room < 3 ? Boundaries.STATE : (Object) 99, () -> x.goal(0, 0));
            b.due("they stay", 100, () -> x.about(0));
            for (int made = 0; made < last; made++) {
                dueTerm(x, before + made, 6, made == 0 ? Libraries.A : before + made - 1, NONE);
            }
            b.due("once more", room < 3 ? Boundaries.STATE : (Object) 99, () -> x.goal(0, 0));
            b.due("the hit stays", Libraries.A, () -> x.hit(0, 4));
            b.due("what was made ahead has its number", last > 0 ? (Object) before : Boundaries.STATE,
                    () -> x.name(6, Libraries.A, NONE, NONE));
            b.due("names used", 7, () -> x.about(2));
        }
    }

    /** Makes terms up to so many. */
    private static int fill(ShapeSearch x, int many) {
        int t = Libraries.FA;
        x.name(5, Libraries.A, NONE, NONE);
        while (x.about(0) < many) {
            t = x.name(5, t, NONE, NONE);
        }
        return x.about(0);
    }
}
