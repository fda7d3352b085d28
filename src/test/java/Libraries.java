/** Objects that the boundary tests begin with. */
final class Libraries {
    private static final int NONE = ShapeSearch.NONE;

    // The terms of some(), by their numbers.
    static final int A = 0;
    static final int V = 1;
    static final int W = 2;
    static final int FV = 3;
    static final int FA = 4;
    static final int GVW = 5;
    static final int HOLE = 6;
    static final int F_HOLE = 7;
    static final int HAVW = 8;
    static final int SOME_TERMS = 9;
    static final int SOME_STATEMENTS = 4;
    static final int SOME_NAMES = 4;
    static final int SOME_HITS = 2;
    // What tried() answers of its follows(): h(a, v, w), a and both for f(v) are looked at, and the first two again.
    static final int SOME_TRIES = 6;
    static final int SOME_TAKEN = 2;
    static final int SOME_FIRST = 1;

    private Libraries() {
    }

    /**
     * Names 0 to 3 are used with as many places; f(v) from g(v, w), f(v) from v, h(a, v, w), and a are stated;
     * f(a) has been shown to follow, in two steps, and the two statements that fit it are the hits.
     */
    static ShapeSearch some() {
        ShapeSearch x = someTerms();
        x.state(GVW, NONE, NONE, NONE, FV);
        x.state(V, NONE, NONE, NONE, FV);
        x.state(NONE, NONE, NONE, NONE, HAVW);
        x.state(NONE, NONE, NONE, NONE, A);
        x.follows(FA, 2);
        x.fit(FA);
        return x;
    }

    /** The terms of some(), and no statement. */
    static ShapeSearch someTerms() {
        ShapeSearch x = new ShapeSearch();
        x.name(0, NONE, NONE, NONE);
        x.leaf(0, false);
        x.leaf(1, false);
        x.name(1, V, NONE, NONE);
        x.name(1, A, NONE, NONE);
        x.name(2, V, W, NONE);
        x.leaf(0, true);
        x.name(1, HOLE, NONE, NONE);
        x.name(3, A, V, W);
        return x;
    }

    /** As some(), with f(f(a)), f(f(f(a))) and so on up to so many terms. */
    static ShapeSearch withTerms(int many) {
        ShapeSearch x = some();
        int t = FA;
        while (x.about(0) < many) {
            t = x.name(1, t, NONE, NONE);
        }
        return x;
    }

    static ShapeSearch fullOfTerms() {
        return withTerms(100);
    }

    static ShapeSearch withoutStatements() {
        ShapeSearch x = some();
        for (int s = 0; s < SOME_STATEMENTS; s++) {
            x.forget();
        }
        return x;
    }

    /** As some(), with 26 statements more, f(v) from a, v; all but h(a, v, w) and a fit f(a). */
    static ShapeSearch fullOfStatements() {
        ShapeSearch x = some();
        for (int s = SOME_STATEMENTS; s < 30; s++) {
            x.state(A, V, NONE, NONE, FV);
        }
        x.fit(FA);
        return x;
    }
}
