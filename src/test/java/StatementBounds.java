import java.util.function.Supplier;

/** Boundary cases of the promises 5, 6 and 12: state, forget, twin. */
final class StatementBounds {
    private static final int NONE = ShapeSearch.NONE;
    private static final int LEAST = Integer.MIN_VALUE;
    private static final int GREATEST = Integer.MAX_VALUE;

    private final Boundaries b;

    StatementBounds(Boundaries b) {
        this.b = b;
    }

    void run() {
        premisesUpToNone();
        statementsNumberedFromNought();
        noTermToState();
        holeToState();
        thirtyStatements();
        forgetUntilEmpty();
        forgetFromFull();
        twinFirstOrNone();
        twinVariables();
        twinPremises();
        noSuchStatement();
    }

    private void premisesUpToNone() {
        b.promise(5, "A statement: its number; premises a, b, c, d up to the first that is NONE.");
        ShapeSearch x = new ShapeSearch();
        int a = x.name(0, NONE, NONE, NONE);
        int hole = x.leaf(0, true);
        b.due("no premise", 0, () -> x.state(NONE, NONE, NONE, NONE, a));
        b.due("one", 1, () -> x.state(a, NONE, NONE, NONE, a));
        b.due("two", 2, () -> x.state(a, a, NONE, NONE, a));
        b.due("three", 3, () -> x.state(a, a, a, NONE, a));
        b.due("four", 4, () -> x.state(a, a, a, a, a));
        b.due("NONE, behind it terms", 5, () -> x.state(NONE, a, a, a, a));
        b.due("NONE, behind it no terms", 6, () -> x.state(NONE, 77, LEAST, GREATEST, a));
        b.due("one, behind NONE a hole", 7, () -> x.state(a, NONE, hole, hole, a));
        b.due("two, behind NONE no term", 8, () -> x.state(a, a, NONE, -2, a));
        b.due("all fit", 9, () -> x.fit(a));
        int[] order = {0, 5, 6, 1, 7, 2, 8, 3, 4};
        int[] premises = {0, 0, 0, 1, 1, 2, 2, 3, 4};
        for (int i = 0; i < order.length; i++) {
            b.dueHits(x, "premises of " + order[i], i, order[i], 0, premises[i]);
        }
    }

    private void statementsNumberedFromNought() {
        b.terms("A STATEMENT, at most 30, numbered from 0 on, has 0 to 4 PREMISES and a CONCLUSION, terms without"
                + " holes.");
        ShapeSearch x = Libraries.someTerms();
        for (int s = 0; s < 30; s++) {
            int number = s;
            b.due("statement " + s, number, () -> x.state(0, 1, 2, 3, 4));
        }
        b.due("thirty", 30, () -> x.about(1));
        b.due("and no more", Boundaries.STATE, () -> x.state(0, 1, 2, 3, 4));
        ShapeSearch y = Libraries.fullOfTerms();
        b.due("the greatest terms", 4, () -> y.state(99, 98, 97, 96, 99));
    }

    private void noTermToState() {
        b.promise(5, "IndexOutOfBoundsException: one of them, or the conclusion, is no term.");
        for (int t : new int[] {-2, -100, LEAST, Libraries.SOME_TERMS, 99, 100, GREATEST}) {
            b.refused("a = " + t, Boundaries.BOUNDS, Libraries::some, x -> x.state(t, NONE, NONE, NONE, 0));
            b.refused("b = " + t, Boundaries.BOUNDS, Libraries::some, x -> x.state(0, t, NONE, NONE, 0));
            b.refused("c = " + t, Boundaries.BOUNDS, Libraries::some, x -> x.state(0, 0, t, NONE, 0));
            b.refused("d = " + t, Boundaries.BOUNDS, Libraries::some, x -> x.state(0, 0, 0, t, 0));
            b.refused("conclusion = " + t, Boundaries.BOUNDS, Libraries::some,
                    x -> x.state(NONE, NONE, NONE, NONE, t));
            b.refused("four premises, conclusion = " + t, Boundaries.BOUNDS, Libraries::some,
                    x -> x.state(0, 0, 0, 0, t));
        }
        b.refused("conclusion = NONE", Boundaries.BOUNDS, Libraries::some, x -> x.state(0, 0, 0, 0, NONE));
        b.refused("nothing but NONE", Boundaries.BOUNDS, Libraries::some,
                x -> x.state(NONE, NONE, NONE, NONE, NONE));
        b.refused("no term 100 among a hundred", Boundaries.BOUNDS, Libraries::fullOfTerms,
                x -> x.state(NONE, NONE, NONE, NONE, 100));
        b.refused("no term, and a hole", Boundaries.BOUNDS, Libraries::some,
                x -> x.state(Libraries.HOLE, 100, NONE, NONE, 0));
        b.refused("no term, and thirty statements", Boundaries.BOUNDS, Libraries::fullOfStatements,
                x -> x.state(NONE, NONE, NONE, NONE, 100));
        ShapeSearch x = Libraries.some();
        b.due("the greatest term goes", 4, () -> x.state(8, 8, 8, 8, 8));
    }

    private void holeToState() {
        b.promise(5, "IllegalArgumentException: a hole stands in one.");
        for (int t : new int[] {Libraries.HOLE, Libraries.F_HOLE}) {
            b.refused("in a: " + t, Boundaries.ARGUMENT, Libraries::some, x -> x.state(t, NONE, NONE, NONE, 0));
            b.refused("in b: " + t, Boundaries.ARGUMENT, Libraries::some, x -> x.state(0, t, NONE, NONE, 0));
            b.refused("in c: " + t, Boundaries.ARGUMENT, Libraries::some, x -> x.state(0, 0, t, NONE, 0));
            b.refused("in d: " + t, Boundaries.ARGUMENT, Libraries::some, x -> x.state(0, 0, 0, t, 0));
            b.refused("in the conclusion: " + t, Boundaries.ARGUMENT, Libraries::some,
                    x -> x.state(NONE, NONE, NONE, NONE, t));
        }
        b.refused("a hole, and thirty statements", Boundaries.ARGUMENT, Libraries::fullOfStatements,
                x -> x.state(0, 0, 0, Libraries.F_HOLE, 0));
        for (int h = 0; h < 4; h++) {
            int which = h;
            ShapeSearch x = new ShapeSearch();
            int t = x.leaf(which, true);
            while (x.about(0) < 100) {
                t = x.name(0, t, NONE, NONE);
            }
            b.due("hole " + h + " in the deepest term", Boundaries.ARGUMENT,
                    () -> x.state(NONE, NONE, NONE, NONE, 99));
            b.due("no statement", 0, () -> x.about(1));
        }
    }

    private void thirtyStatements() {
        b.promise(5, "IllegalStateException: there are 30.");
        ShapeSearch x = Libraries.fullOfStatements();
        x.forget();
        b.due("the thirtieth", 29, () -> x.state(NONE, NONE, NONE, NONE, 0));
        b.refused("the 31st", Boundaries.STATE, Libraries::fullOfStatements,
                y -> y.state(NONE, NONE, NONE, NONE, 0));
        b.refused("the 31st, with four premises", Boundaries.STATE, Libraries::fullOfStatements,
                y -> y.state(0, 1, 2, 3, 4));
        b.due("the 31st", Boundaries.STATE, () -> x.state(NONE, NONE, NONE, NONE, 0));
        b.due("the latest is still the thirtieth", true, () -> x.forget());
        b.due("and comes again", 29, () -> x.state(NONE, NONE, NONE, NONE, 0));
    }

    private void forgetUntilEmpty() {
        b.promise(6, "The latest statement goes: whether there was one.");
        ShapeSearch x = Libraries.some();
        for (int left = Libraries.SOME_STATEMENTS - 1; left >= 0; left--) {
            int due = left;
            b.due("there was one", true, () -> x.forget());
            b.due("and so many are left", due, () -> x.about(1));
            b.due("so many are ranked", due, () -> x.rank(0));
        }
        for (int i = 0; i < 3; i++) {
            b.due("there was none", false, () -> x.forget());
            b.due("there is none", 0, () -> x.about(1));
        }
        b.due("the terms stay", Libraries.SOME_TERMS, () -> x.about(0));
        b.due("the names stay", Libraries.SOME_NAMES, () -> x.about(2));
        b.due("the latest follows() stays", Libraries.SOME_TRIES, () -> x.tried(0));
        b.due("nothing is found", 0, () -> x.find(Libraries.HOLE));
        b.due("nothing fits", 0, () -> x.fit(Libraries.FA));
        b.due("nothing follows", false, () -> x.follows(Libraries.A, 100));
        b.due("the next statement is 0 again", 0, () -> x.state(NONE, NONE, NONE, NONE, 0));
    }

    private void forgetFromFull() {
        b.promise(6, "The latest statement goes: whether there was one.");
        ShapeSearch x = Libraries.fullOfStatements();
        b.due("of thirty", true, () -> x.forget());
        b.due("29 are left", 29, () -> x.about(1));
        b.due("the thirtieth is none", Boundaries.BOUNDS, () -> x.twin(29));
        b.due("another one", 29, () -> x.state(0, 0, 0, 0, Libraries.GVW));
        b.due("the other one is found", 1, () -> x.fit(Libraries.GVW));
        b.dueHits(x, "the other one", 0, 29, 0, 4);
        b.due("the one ahead of it stays", 4, () -> x.twin(28));
    }

    private void twinFirstOrNone() {
        b.promise(12, "The first statement that is the same as one, but for its variables, each in the stead of"
                + " another one (premises in order): its TWIN; NONE if that is itself.");
        ShapeSearch x = new ShapeSearch();
        int a = x.name(0, NONE, NONE, NONE);
        x.state(NONE, NONE, NONE, NONE, a);
        b.due("the only statement", NONE, () -> x.twin(0));
        for (int s = 1; s < 30; s++) {
            x.state(NONE, NONE, NONE, NONE, a);
        }
        b.due("the first of thirty that are the same", NONE, () -> x.twin(0));
        b.due("the second", 0, () -> x.twin(1));
        b.due("the thirtieth: not the one ahead of it", 0, () -> x.twin(29));
        ShapeSearch y = new ShapeSearch();
        y.name(0, NONE, NONE, NONE);
        y.name(1, NONE, NONE, NONE);
        y.state(NONE, NONE, NONE, NONE, 0);
        y.state(NONE, NONE, NONE, NONE, 1);
        y.state(NONE, NONE, NONE, NONE, 1);
        b.due("a later one is no twin", NONE, () -> y.twin(1));
        b.due("names don't change", 1, () -> y.twin(2));
    }

    private void twinVariables() {
        b.promise(12, "The first statement that is the same as one, but for its variables, each in the stead of"
                + " another one (premises in order): its TWIN; NONE if that is itself.");
        ShapeSearch x = new ShapeSearch();
        for (int v = 0; v < 8; v++) {
            x.leaf(v, false);
        }
        for (int v = 0; v < 8; v++) {
            x.state(NONE, NONE, NONE, NONE, v);
        }
        b.due("variable 0 alone", NONE, () -> x.twin(0));
        b.due("variable 7 in its stead", 0, () -> x.twin(7));
        ShapeSearch y = new ShapeSearch();
        int all = eight(y, 0, 1);
        int turned = eight(y, 7, -1);
        int first = y.leaf(0, false);
        y.state(NONE, NONE, NONE, NONE, all);
        y.state(NONE, NONE, NONE, NONE, turned);
        y.state(first, NONE, NONE, NONE, all);
        y.state(first, NONE, NONE, NONE, turned);
        y.state(y.leaf(7, false), NONE, NONE, NONE, turned);
        b.due("all eight variables, the other way round", 0, () -> y.twin(1));
        b.due("the first of eight in a premise", NONE, () -> y.twin(2));
        b.due("the last of eight in a premise", NONE, () -> y.twin(3));
        b.due("the first of eight, the other way round", 2, () -> y.twin(4));
        ShapeSearch z = new ShapeSearch();
        z.leaf(0, false);
        z.leaf(1, false);
        z.state(NONE, NONE, NONE, NONE, z.name(0, 0, 1, NONE));
        z.state(NONE, NONE, NONE, NONE, z.name(0, 0, 0, NONE));
        z.state(NONE, NONE, NONE, NONE, z.name(0, 1, 1, NONE));
        z.state(NONE, NONE, NONE, NONE, z.name(0, 1, 0, NONE));
        b.due("two variables don't become one", NONE, () -> z.twin(1));
        b.due("one variable for another", 1, () -> z.twin(2));
        b.due("two variables change places", 0, () -> z.twin(3));
    }

    /** A term with the eight variables in a row. */
    private static int eight(ShapeSearch x, int from, int by) {
        int t = x.name(0, NONE, NONE, NONE);
        for (int i = 0; i < 8; i++) {
            t = x.name(1, x.leaf(from + by * i, false), t, NONE);
        }
        return t;
    }

    private void twinPremises() {
        b.promise(12, "The first statement that is the same as one, but for its variables, each in the stead of"
                + " another one (premises in order): its TWIN; NONE if that is itself.");
        ShapeSearch x = Libraries.someTerms();
        int v = Libraries.V;
        int w = Libraries.W;
        int fv = Libraries.FV;
        int[][] stated = {{NONE, NONE, NONE, NONE, v}, {v, NONE, NONE, NONE, v}, {w, NONE, NONE, NONE, v},
            {v, w, v, fv, v}, {v, w, fv, v, v}, {w, v, w, fv, w}, {v, w, v, NONE, v}, {w, NONE, NONE, NONE, w},
            {v, NONE, NONE, NONE, w}, {w, v, w, x.name(1, w, NONE, NONE), w}, {NONE, v, v, v, w}};
        int[] due = {NONE, NONE, NONE, NONE, NONE, NONE, NONE, 1, 2, 3, 0};
        for (int[] one : stated) {
            x.state(one[0], one[1], one[2], one[3], one[4]);
        }
        for (int s = 0; s < due.length; s++) {
            int number = s;
            b.due("twin(" + s + ")", due[s], () -> x.twin(number));
        }
    }

    private void noSuchStatement() {
        b.promise(12, "IndexOutOfBoundsException: there is no such statement.");
        for (int s : new int[] {NONE, -2, LEAST, Libraries.SOME_STATEMENTS, 29, 30, GREATEST}) {
            b.refused("twin(" + s + ")", Boundaries.BOUNDS, Libraries::some, x -> x.twin(s));
        }
        for (int s : new int[] {NONE, 30, 31}) {
            b.refused("among thirty: twin(" + s + ")", Boundaries.BOUNDS, Libraries::fullOfStatements,
                    x -> x.twin(s));
        }
        Supplier<ShapeSearch> forgotten = StatementBounds::oneForgotten;
        b.refused("the one that went", Boundaries.BOUNDS, forgotten, x -> x.twin(Libraries.SOME_STATEMENTS - 1));
        b.refused("no statement", Boundaries.BOUNDS, ShapeSearch::new, x -> x.twin(0));
        b.due("the last that there is", NONE, () -> Libraries.some().twin(Libraries.SOME_STATEMENTS - 1));
        b.due("the last of thirty", 4, () -> Libraries.fullOfStatements().twin(29));
    }

    private static ShapeSearch oneForgotten() {
        ShapeSearch x = Libraries.some();
        x.forget();
        return x;
    }
}
