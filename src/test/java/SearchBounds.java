/** Boundary cases of the promises 7, 8 and 9: find, fit, rank. */
final class SearchBounds {
    private static final int NONE = ShapeSearch.NONE;
    private static final int LEAST = Integer.MIN_VALUE;
    private static final int GREATEST = Integer.MAX_VALUE;
    private static final int[] NO_TERMS = {NONE, -2, LEAST, Libraries.SOME_TERMS, 99, 100, GREATEST};

    private static final String FOUND =
            "How many statements are FOUND by a shape; they are the HITS, in the order of their numbers.";
    private static final String FITTING = "How many statements FIT a goal; they are the hits, those with fewer"
            + " premises first, of as many those with lesser numbers.";
    private static final String RANKED = "All statements are the hits, those with the greater LIKENESS to a goal"
            + " first, of as much those with lesser numbers: how many.";

    private final Boundaries b;

    SearchBounds(Boundaries b) {
        this.b = b;
    }

    void run() {
        findNoneToAll();
        holesGiveWay();
        firstMatch();
        noSuchShape();
        fitNoneToAll();
        fewerPremisesFirst();
        variablesGiveWay();
        noSuchGoalToFit();
        holeInGoalToFit();
        rankNoneToAll();
        likeness();
        noSuchGoalToRank();
    }

    private void findNoneToAll() {
        b.promise(7, FOUND);
        ShapeSearch none = Libraries.withoutStatements();
        b.due("no statement, any shape", 0, () -> none.find(Libraries.HOLE));
        b.due("no hit", NONE, () -> none.hit(0, 0));
        ShapeSearch x = Libraries.some();
        b.due("none is found", 0, () -> x.find(Libraries.FA));
        b.due("no hits", 0, () -> x.about(3));
        b.due("one is found", 1, () -> x.find(Libraries.GVW));
        b.due("the one", 0, () -> x.hit(0, 0));
        b.due("some are found", 2, () -> x.find(Libraries.A));
        b.due("in the order of their numbers", 2, () -> x.hit(0, 0));
        b.due("in the order of their numbers", 3, () -> x.hit(1, 0));
        ShapeSearch full = Libraries.fullOfStatements();
        b.due("a hole finds all thirty", 30, () -> full.find(Libraries.HOLE));
        for (int i = 0; i < 30; i++) {
            int hit = i;
            b.due("hit " + i, hit, () -> full.hit(hit, 0));
        }
        b.due("no hit 30", NONE, () -> full.hit(30, 0));
        b.due("thirty hits", 30, () -> full.about(3));
    }

    private void holesGiveWay() {
        b.terms("A term MATCHES a shape, a term, if it becomes it when each hole of that gives way to a term, the"
                + " same to the same hole; variables stand for themselves.");
        ShapeSearch x = new ShapeSearch();
        int a = x.name(0, NONE, NONE, NONE);
        int v = x.leaf(0, false);
        int w = x.leaf(7, false);
        int gav = x.name(1, a, v, NONE);
        int gvv = x.name(1, v, v, NONE);
        int inner = x.name(1, gav, gvv, NONE);
        x.state(NONE, NONE, NONE, NONE, inner);
        int[] holes = {x.leaf(0, true), x.leaf(1, true), x.leaf(2, true), x.leaf(3, true)};
        int four = x.name(1, x.name(1, holes[3], holes[2], NONE), x.name(1, holes[1], holes[0], NONE), NONE);
        b.due("all four holes", 1, () -> x.find(four));
        b.dueHits(x, "all four holes", 0, 0, NONE, inner, NONE, v, v, v, a, NONE);
        b.due("the same hole twice, for the same", 1, () -> x.find(x.name(1, holes[3], holes[3], NONE)));
        b.due("it is g(v, v)", gvv, () -> x.hit(0, 2));
        b.due("hole 3", v, () -> x.hit(0, 7));
        b.due("hole 0 is not in the shape", NONE, () -> x.hit(0, 4));
        b.due("the same hole twice, for others", 0,
                () -> x.find(x.name(1, x.name(1, holes[0], holes[1], NONE), x.name(1, holes[0], v, NONE), NONE)));
        b.due("another variable", 0, () -> x.find(w));
        b.due("the same variable", 1, () -> x.find(v));
        b.due("a shape without a hole", 1, () -> x.find(gvv));
        b.due("a name that is nowhere", 0, () -> x.find(x.name(2, NONE, NONE, NONE)));
    }

    private void firstMatch() {
        b.terms("A statement is FOUND by a shape if a term that stands in its conclusion or in a premise matches it:"
                + " the first such one, the conclusion ahead of the premises, these in order; in each from the"
                + " outside, what stands in its first place ahead of what stands in its second, and so on.");
        ShapeSearch x = new ShapeSearch();
        int a = x.name(0, NONE, NONE, NONE);
        int n = x.name(1, NONE, NONE, NONE);
        int fa = x.name(2, a, NONE, NONE);
        int fn = x.name(2, n, NONE, NONE);
        int ffa = x.name(2, fa, NONE, NONE);
        int shape = x.name(2, x.leaf(0, true), NONE, NONE);
        x.state(NONE, NONE, NONE, NONE, fa);
        x.state(fa, fa, fa, fa, fn);
        x.state(fa, fn, fn, fn, a);
        x.state(a, a, a, fn, a);
        x.state(a, a, a, a, a);
        x.state(NONE, NONE, NONE, NONE, x.name(3, n, a, ffa));
        x.state(NONE, NONE, NONE, NONE, x.name(3, x.name(4, fn, NONE, NONE), fa, ffa));
        b.due("all but one", 6, () -> x.find(shape));
        b.dueHits(x, "the whole conclusion, no premise", 0, 0, NONE, fa, NONE, a);
        b.dueHits(x, "the conclusion ahead of four premises", 1, 1, NONE, fn, NONE, n);
        b.dueHits(x, "the first of four premises", 2, 2, 0, fa, NONE, a);
        b.dueHits(x, "the last of four premises", 3, 3, 3, fn, NONE, n);
        b.dueHits(x, "the last place, the outside of it", 4, 5, NONE, ffa, NONE, fa);
        b.dueHits(x, "deep in the first place", 5, 6, NONE, fn, NONE, n);
    }

    private void noSuchShape() {
        b.promise(7, "IndexOutOfBoundsException: no such term.");
        for (int t : NO_TERMS) {
            b.refused("find(" + t + ")", Boundaries.BOUNDS, Libraries::some, x -> x.find(t));
        }
        b.refused("among a hundred: find(100)", Boundaries.BOUNDS, Libraries::fullOfTerms, x -> x.find(100));
        b.refused("no statement: find(9)", Boundaries.BOUNDS, Libraries::withoutStatements, x -> x.find(9));
        b.due("the greatest term is one", 1, () -> Libraries.some().find(Libraries.SOME_TERMS - 1));
        b.due("the hundredth is one", 0, () -> Libraries.fullOfTerms().find(99));
        b.due("a hole is one", 4, () -> Libraries.some().find(Libraries.HOLE));
    }

    private void fitNoneToAll() {
        b.promise(8, FITTING);
        ShapeSearch none = Libraries.withoutStatements();
        b.due("no statement", 0, () -> none.fit(Libraries.FA));
        b.due("no hit", NONE, () -> none.hit(0, 0));
        ShapeSearch x = Libraries.some();
        b.due("none fits", 0, () -> x.fit(Libraries.GVW));
        b.due("no hits", 0, () -> x.about(3));
        b.due("one fits", 1, () -> x.fit(Libraries.A));
        b.due("the one", 3, () -> x.hit(0, 0));
        ShapeSearch full = Libraries.someTerms();
        for (int s = 0; s < 30; s++) {
            full.state(NONE, NONE, NONE, NONE, Libraries.W);
        }
        b.due("a variable as conclusion: all thirty fit", 30, () -> full.fit(Libraries.HAVW));
        b.due("the last of thirty", 29, () -> full.hit(29, 0));
        b.due("no hit 30", NONE, () -> full.hit(30, 0));
        b.due("a variable as goal", 30, () -> full.fit(Libraries.V));
    }

    private void fewerPremisesFirst() {
        b.promise(8, FITTING);
        ShapeSearch x = Libraries.someTerms();
        int a = Libraries.A;
        for (int s = 0; s < 30; s++) {
            int many = 4 - s / 6;
            x.state(many > 0 ? a : NONE, many > 1 ? a : NONE, many > 2 ? a : NONE, many > 3 ? a : NONE, a);
        }
        b.due("four premises first stated, none last", 30, () -> x.fit(a));
        for (int i = 0; i < 30; i++) {
            b.dueHits(x, "with " + i / 6 + " premises", i, 24 - 6 * (i / 6) + i % 6, 0, i / 6);
        }
    }

    private void variablesGiveWay() {
        b.terms("A statement FITS a goal, a term without holes, if its conclusion becomes the goal when each variable"
                + " of the conclusion gives way to a term, the same to the same variable (variables of the goal stand"
                + " for themselves).");
        ShapeSearch x = Libraries.someTerms();
        int v = Libraries.V;
        int w = Libraries.W;
        int vw = x.name(4, v, w, NONE);
        int vv = x.name(4, v, v, NONE);
        int wv = x.name(4, w, v, NONE);
        int va = x.name(4, v, Libraries.A, NONE);
        int aa = x.name(4, Libraries.A, Libraries.A, NONE);
        x.state(NONE, NONE, NONE, NONE, vw);
        x.state(NONE, NONE, NONE, NONE, vv);
        x.state(NONE, NONE, NONE, NONE, aa);
        b.due("g(w, v): two variables change places", 1, () -> x.fit(wv));
        b.dueHits(x, "g(w, v)", 0, 0, 0, 0, NONE, w, v, NONE);
        b.due("g(v, v): two may give way to the same", 2, () -> x.fit(vv));
        b.dueHits(x, "g(v, v)", 1, 1, 0, 0, NONE, v, NONE);
        b.due("g(v, a): the goal's variable is not a", 1, () -> x.fit(va));
        b.due("g(a, a): all of them", 3, () -> x.fit(aa));
        b.due("v: the goal's variable is no name", 0, () -> x.fit(v));
    }

    private void noSuchGoalToFit() {
        b.promise(8, "IndexOutOfBoundsException: no such term.");
        for (int t : NO_TERMS) {
            b.refused("fit(" + t + ")", Boundaries.BOUNDS, Libraries::some, x -> x.fit(t));
        }
        b.refused("among a hundred: fit(100)", Boundaries.BOUNDS, Libraries::fullOfTerms, x -> x.fit(100));
        b.refused("no statement: fit(9)", Boundaries.BOUNDS, Libraries::withoutStatements, x -> x.fit(9));
        b.due("the greatest term is one", 1, () -> Libraries.some().fit(Libraries.SOME_TERMS - 1));
        b.due("the hundredth is one", 2, () -> Libraries.fullOfTerms().fit(99));
    }

    private void holeInGoalToFit() {
        b.promise(8, "IllegalArgumentException: a hole stands in it.");
        b.refused("a hole", Boundaries.ARGUMENT, Libraries::some, x -> x.fit(Libraries.HOLE));
        b.refused("f of a hole", Boundaries.ARGUMENT, Libraries::some, x -> x.fit(Libraries.F_HOLE));
        b.refused("no statement", Boundaries.ARGUMENT, Libraries::withoutStatements, x -> x.fit(Libraries.HOLE));
        for (int h = 0; h < 4; h++) {
            ShapeSearch x = new ShapeSearch();
            int hole = x.leaf(h, true);
            int v = x.leaf(h, false);
            b.due("hole " + h + " in the third place", Boundaries.ARGUMENT, () -> x.fit(x.name(0, v, v, hole)));
            b.due("variable " + h + " is no hole", 0, () -> x.fit(x.name(0, v, v, v)));
        }
    }

    private void rankNoneToAll() {
        b.promise(9, RANKED);
        ShapeSearch none = Libraries.withoutStatements();
        b.due("no statement", 0, () -> none.rank(Libraries.FA));
        b.due("no hit", NONE, () -> none.hit(0, 0));
        ShapeSearch full = Libraries.fullOfStatements();
        b.due("all thirty", 30, () -> full.rank(Libraries.FA));
        b.dueHits(full, "the most alike, and the least number", 0, 4, 2, 2);
        b.dueHits(full, "the most alike, and the greatest number", 25, 29, 2, 2);
        b.dueHits(full, "half as much, lesser number", 26, 1, 1, 2);
        b.dueHits(full, "half as much, greater number", 27, 3, 1, 2);
        b.dueHits(full, "a third, lesser number", 28, 0, 1, 3);
        b.dueHits(full, "a third, greater number", 29, 2, 1, 3);
        b.dueHits(full, "no more", 30, NONE, NONE, NONE);
        b.due("thirty hits", 30, () -> full.about(3));
    }

    private void likeness() {
        b.terms("LIKENESS of a statement and a goal: of the different names that stand in one or the other the share"
                + " that stand in both (0 of 1, if there are none).");
        ShapeSearch x = Libraries.someTerms();
        int v = Libraries.V;
        x.state(NONE, NONE, NONE, NONE, v);
        x.state(v, v, v, v, Libraries.W);
        x.state(v, v, v, Libraries.A, v);
        b.due("a goal without names", 3, () -> x.rank(v));
        b.dueHits(x, "no names in either", 0, 0, 0, 1, NONE);
        b.dueHits(x, "no names in either, with premises", 1, 1, 0, 1, NONE);
        b.dueHits(x, "one in the statement alone", 2, 2, 0, 1, NONE);
        b.due("the goal f(f(a)): a name counts once", 3, () -> x.rank(x.name(1, Libraries.FA, NONE, NONE)));
        b.dueHits(x, "a name in the last premise", 0, 2, 1, 2);
        b.dueHits(x, "none in common", 1, 0, 0, 2);
        ShapeSearch y = new ShapeSearch();
        int t = y.name(0, NONE, NONE, NONE);
        for (int n = 1; n < 30; n++) {
            t = y.name(n, t, NONE, NONE);
        }
        y.state(NONE, NONE, NONE, NONE, 14);
        y.state(NONE, NONE, NONE, NONE, t);
        y.state(NONE, NONE, NONE, NONE, 13);
        int all = t;
        b.due("all thirty names", 3, () -> y.rank(all));
        b.dueHits(y, "all of all", 0, 1, 30, 30);
        b.dueHits(y, "half of them, not shortened", 1, 0, 15, 30);
        b.dueHits(y, "one fewer", 2, 2, 14, 30);
    }

    private void noSuchGoalToRank() {
        b.promise(9, "Exceptions as for fit().");
        for (int t : NO_TERMS) {
            b.refused("rank(" + t + ")", Boundaries.BOUNDS, Libraries::some, x -> x.rank(t));
        }
        b.refused("among a hundred: rank(100)", Boundaries.BOUNDS, Libraries::fullOfTerms, x -> x.rank(100));
        b.refused("no statement: rank(9)", Boundaries.BOUNDS, Libraries::withoutStatements, x -> x.rank(9));
        b.refused("a hole", Boundaries.ARGUMENT, Libraries::some, x -> x.rank(Libraries.HOLE));
        b.refused("f of a hole", Boundaries.ARGUMENT, Libraries::some, x -> x.rank(Libraries.F_HOLE));
        b.refused("a hole, no statement", Boundaries.ARGUMENT, Libraries::withoutStatements,
                x -> x.rank(Libraries.HOLE));
        b.due("the hundredth term is one", 4, () -> Libraries.fullOfTerms().rank(99));
    }
}
