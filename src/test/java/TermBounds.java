import java.util.function.Supplier;

/** Boundary cases of the promises 1 to 4 and 15: a new object, name, leaf, term, about. */
final class TermBounds {
    private static final int NONE = ShapeSearch.NONE;
    private static final int LEAST = Integer.MIN_VALUE;
    private static final int GREATEST = Integer.MAX_VALUE;

    private final Boundaries b;

    TermBounds(Boundaries b) {
        this.b = b;
    }

    void run() {
        newObject();
        termsNumberedFromNought();
        nameUpToNone();
        noSuchName();
        noSuchTermForName();
        usedWithMoreOrFewer();
        zeroToThreePlaces();
        hundredAndFirstByName();
        leafEnds();
        noSuchLeaf();
        hundredAndFirstByLeaf();
        termsOwnParts();
        sizeAtMost();
        anotherWhatOrNoSuchTerm();
        aboutEmptyAndFull();
        aboutAnotherWhat();
    }

    private void newObject() {
        b.promise(1, "No terms, no statements.");
        ShapeSearch x = new ShapeSearch();
        b.due("about(0)", 0, () -> x.about(0));
        b.due("about(1)", 0, () -> x.about(1));
        b.due("about(2)", 0, () -> x.about(2));
        b.due("about(3)", 0, () -> x.about(3));
        for (int what = 0; what < 6; what++) {
            int w = what;
            b.due("term(0, " + w + ")", NONE, () -> x.term(0, w));
            b.due("hit(0, " + w + ")", NONE, () -> x.hit(0, w));
        }
        b.due("forget()", false, () -> x.forget());
        b.dueTried(x, "nothing has been tried", 0, 0, NONE);
        Supplier<ShapeSearch> made = ShapeSearch::new;
        b.refused("name(0, 0, -1, -1)", Boundaries.BOUNDS, made, y -> y.name(0, 0, NONE, NONE));
        b.refused("state(-1, -1, -1, -1, 0)", Boundaries.BOUNDS, made, y -> y.state(NONE, NONE, NONE, NONE, 0));
        b.refused("find(0)", Boundaries.BOUNDS, made, y -> y.find(0));
        b.refused("fit(0)", Boundaries.BOUNDS, made, y -> y.fit(0));
        b.refused("rank(0)", Boundaries.BOUNDS, made, y -> y.rank(0));
        b.refused("goal(0, 0)", Boundaries.BOUNDS, made, y -> y.goal(0, 0));
        b.refused("twin(0)", Boundaries.BOUNDS, made, y -> y.twin(0));
        b.refused("follows(0, 1)", Boundaries.BOUNDS, made, y -> y.follows(0, 1));
        Libraries.fullOfTerms();
        b.due("another object's terms are not its own", 0, () -> new ShapeSearch().about(0));
        b.due("nor are its statements", 0, () -> new ShapeSearch().about(1));
    }

    private void termsNumberedFromNought() {
        b.terms("TERMS, at most 100, numbered from 0 on as they are made; the same of the same is the same term.");
        ShapeSearch x = new ShapeSearch();
        b.due("the first term", 0, () -> x.leaf(0, true));
        for (int t = 1; t < 100; t++) {
            int number = t;
            b.due("term " + t, number, () -> x.name(0, number - 1, NONE, NONE));
        }
        b.due("a hundred", 100, () -> x.about(0));
        for (int t = 1; t < 100; t++) {
            int number = t;
            b.due("term " + t + " again", number, () -> x.name(0, number - 1, NONE, NONE));
        }
        b.due("still a hundred", 100, () -> x.about(0));
        b.due("and no more", Boundaries.STATE, () -> x.name(0, 99, NONE, NONE));
    }

    private void nameUpToNone() {
        b.promise(2, "A NAME with terms a, b, c up to the first that is NONE: its number.");
        ShapeSearch x = new ShapeSearch();
        b.due("the least name, no term", 0, () -> x.name(0, NONE, NONE, NONE));
        b.due("behind NONE terms that there are", 0, () -> x.name(0, NONE, 0, 0));
        b.due("behind NONE terms that there are not", 0, () -> x.name(0, NONE, 77, LEAST));
        b.due("one term", 1, () -> x.name(1, 0, NONE, NONE));
        b.due("one term, behind NONE another", 1, () -> x.name(1, 0, NONE, 0));
        b.due("one term, behind NONE no term", 1, () -> x.name(1, 0, NONE, GREATEST));
        b.due("two terms", 2, () -> x.name(2, 0, 1, NONE));
        b.due("two terms the other way round", 3, () -> x.name(2, 1, 0, NONE));
        b.due("three terms", 4, () -> x.name(3, 0, 1, 2));
        b.due("the greatest name, three times its latest term", 5, () -> x.name(29, 4, 4, 4));
        b.due("what stands behind NONE is no place", NONE, () -> x.term(1, 4));
        b.due("six terms", 6, () -> x.about(0));
    }

    private void noSuchName() {
        b.promise(2, "IndexOutOfBoundsException: no such name or term.");
        for (int n : new int[] {NONE, -2, LEAST, 30, 31, 100, GREATEST}) {
            b.refused("name(" + n + ", -1, -1, -1)", Boundaries.BOUNDS, Libraries::some,
                    x -> x.name(n, NONE, NONE, NONE));
            b.refused("name(" + n + ", 0, 0, 0)", Boundaries.BOUNDS, Libraries::some, x -> x.name(n, 0, 0, 0));
        }
        b.refused("name 30 among a hundred terms", Boundaries.BOUNDS, Libraries::fullOfTerms,
                x -> x.name(30, NONE, NONE, NONE));
    }

    private void noSuchTermForName() {
        b.promise(2, "IndexOutOfBoundsException: no such name or term.");
        for (int t : new int[] {-2, -100, LEAST, Libraries.SOME_TERMS, 99, 100, GREATEST}) {
            b.refused("name(1, " + t + ", -1, -1)", Boundaries.BOUNDS, Libraries::some,
                    x -> x.name(1, t, NONE, NONE));
            b.refused("name(2, 0, " + t + ", -1)", Boundaries.BOUNDS, Libraries::some,
                    x -> x.name(2, 0, t, NONE));
            b.refused("name(3, 0, 0, " + t + ")", Boundaries.BOUNDS, Libraries::some, x -> x.name(3, 0, 0, t));
            b.refused("an unused name: name(9, " + t + ", 0, -1)", Boundaries.BOUNDS, Libraries::some,
                    x -> x.name(9, t, 0, NONE));
        }
        ShapeSearch x = Libraries.some();
        b.due("the greatest term goes", 9, () -> x.name(1, Libraries.SOME_TERMS - 1, NONE, NONE));
        b.refused("no term 100 among a hundred", Boundaries.BOUNDS, Libraries::fullOfTerms,
                y -> y.name(1, 100, NONE, NONE));
        b.refused("no term, and more than at first", Boundaries.BOUNDS, Libraries::some,
                y -> y.name(1, 0, 100, NONE));
    }

    private void usedWithMoreOrFewer() {
        b.promise(2, "IllegalArgumentException: the name was used with more or fewer.");
        for (int first = 0; first < 4; first++) {
            for (int now = 0; now < 4; now++) {
                int used = first;
                int wanted = now;
                if (used != wanted) {
                    b.refused("name " + used + " was used with as many, now with " + wanted, Boundaries.ARGUMENT,
                            Libraries::some, x -> withPlaces(x, used, wanted));
                    b.refused("among a hundred terms name " + used + " with " + wanted, Boundaries.ARGUMENT,
                            Libraries::fullOfTerms, x -> withPlaces(x, used, wanted));
                }
            }
        }
        ShapeSearch x = Libraries.some();
        Checks.answerOf(() -> x.name(9, 77, NONE, NONE));
        b.due("a name that was refused was not used", 9, () -> x.name(9, 0, 0, NONE));
        b.due("but is now", Boundaries.ARGUMENT, () -> x.name(9, 0, NONE, NONE));
    }

    private static int withPlaces(ShapeSearch x, int name, int places) {
        return x.name(name, places > 0 ? 0 : NONE, places > 1 ? 0 : NONE, places > 2 ? 0 : NONE);
    }

    private void zeroToThreePlaces() {
        b.terms("A term is a NAME 0 .. 29 with a term for each of its 0 to 3 places (as many as when it was used"
                + " first); a VARIABLE 0 .. 7; or a HOLE 0 .. 3.");
        for (int places = 0; places < 4; places++) {
            int many = places;
            for (int name : new int[] {0, 29}) {
                ShapeSearch x = new ShapeSearch();
                x.leaf(0, false);
                b.due("name " + name + " with " + many, 1, () -> withPlaces(x, name, many));
                for (int k = 0; k < 3; k++) {
                    int what = 2 + k;
                    b.due("with " + many + ": term(1, " + what + ")", k < many ? 0 : NONE, () -> x.term(1, what));
                }
                b.due("again with " + many, 1, () -> withPlaces(x, name, many));
            }
        }
    }

    private void hundredAndFirstByName() {
        b.promise(2, "IllegalStateException: it would be the 101st term.");
        ShapeSearch x = Libraries.withTerms(99);
        b.due("the hundredth", 99, () -> x.name(1, 98, NONE, NONE));
        b.refused("the 101st", Boundaries.STATE, Libraries::fullOfTerms, y -> y.name(1, 99, NONE, NONE));
        b.refused("the 101st, without a place", Boundaries.STATE, Libraries::fullOfTerms,
                y -> y.name(29, NONE, NONE, NONE));
        b.refused("the 101st, with three", Boundaries.STATE, Libraries::fullOfTerms, y -> y.name(28, 0, 1, 2));
        b.due("one that there is, the first", 0, () -> x.name(0, NONE, NONE, NONE));
        b.due("one that there is, the hundredth", 99, () -> x.name(1, 98, NONE, NONE));
        Checks.answerOf(() -> x.name(29, NONE, NONE, NONE));
        b.due("a name that was refused was not used", Boundaries.STATE, () -> x.name(29, 0, NONE, NONE));
        b.due("nor does it count", Libraries.SOME_NAMES, () -> x.about(2));
        b.due("a hundred terms", 100, () -> x.about(0));
    }

    private void leafEnds() {
        b.promise(3, "A VARIABLE, or (hole) a HOLE: its number.");
        ShapeSearch x = new ShapeSearch();
        for (int v = 0; v < 8; v++) {
            int which = v;
            b.due("variable " + v, v, () -> x.leaf(which, false));
        }
        for (int h = 0; h < 4; h++) {
            int which = h;
            b.due("hole " + h + " is another term than the variable", 8 + h, () -> x.leaf(which, true));
        }
        b.due("variable 0 again", 0, () -> x.leaf(0, false));
        b.due("variable 7 again", 7, () -> x.leaf(7, false));
        b.due("hole 0 again", 8, () -> x.leaf(0, true));
        b.due("hole 3 again", 11, () -> x.leaf(3, true));
        b.due("twelve terms", 12, () -> x.about(0));
    }

    private void noSuchLeaf() {
        b.promise(3, "IndexOutOfBoundsException: there is none such.");
        for (int which : new int[] {NONE, -2, LEAST, 8, 9, 30, GREATEST}) {
            b.refused("leaf(" + which + ", false)", Boundaries.BOUNDS, Libraries::some, x -> x.leaf(which, false));
        }
        for (int which : new int[] {NONE, -2, LEAST, 4, 5, 7, 8, GREATEST}) {
            b.refused("leaf(" + which + ", true)", Boundaries.BOUNDS, Libraries::some, x -> x.leaf(which, true));
        }
        b.refused("variable 8 among a hundred terms", Boundaries.BOUNDS, Libraries::fullOfTerms,
                x -> x.leaf(8, false));
        b.refused("hole 4 among a hundred terms", Boundaries.BOUNDS, Libraries::fullOfTerms, x -> x.leaf(4, true));
    }

    private void hundredAndFirstByLeaf() {
        b.promise(3, "IllegalStateException: as for name().");
        ShapeSearch byVariable = Libraries.withTerms(99);
        b.due("a variable is the hundredth", 99, () -> byVariable.leaf(7, false));
        b.due("it is there", 99, () -> byVariable.leaf(7, false));
        b.due("the next is not", Boundaries.STATE, () -> byVariable.leaf(6, false));
        ShapeSearch byHole = Libraries.withTerms(99);
        b.due("a hole is the hundredth", 99, () -> byHole.leaf(3, true));
        b.due("the next is not", Boundaries.STATE, () -> byHole.leaf(2, true));
        b.refused("a variable would be the 101st", Boundaries.STATE, Libraries::fullOfTerms, x -> x.leaf(7, false));
        b.refused("a hole would be the 101st", Boundaries.STATE, Libraries::fullOfTerms, x -> x.leaf(3, true));
        ShapeSearch full = Libraries.fullOfTerms();
        b.due("a variable that there is", Libraries.V, () -> full.leaf(0, false));
        b.due("a hole that there is", Libraries.HOLE, () -> full.leaf(0, true));
    }

    private void termsOwnParts() {
        b.promise(4, "Of a term: 0 NAME, 1 VARIABLE, 2 HOLE (what = 0), which (1), its places' terms (2 .. 4; NONE"
                + " without), how many terms stand in it, each place for itself, at most 1000000 (5).");
        ShapeSearch x = new ShapeSearch();
        dueTerm(x, x.name(0, NONE, NONE, NONE), 0, 0, NONE, NONE, NONE, 1);
        dueTerm(x, x.name(29, NONE, NONE, NONE), 0, 29, NONE, NONE, NONE, 1);
        dueTerm(x, x.leaf(0, false), 1, 0, NONE, NONE, NONE, 1);
        dueTerm(x, x.leaf(7, false), 1, 7, NONE, NONE, NONE, 1);
        dueTerm(x, x.leaf(0, true), 2, 0, NONE, NONE, NONE, 1);
        dueTerm(x, x.leaf(3, true), 2, 3, NONE, NONE, NONE, 1);
        dueTerm(x, x.name(1, 0, NONE, NONE), 0, 1, 0, NONE, NONE, 2);
        dueTerm(x, x.name(2, 6, 0, NONE), 0, 2, 6, 0, NONE, 4);
        dueTerm(x, x.name(3, 5, 7, 5), 0, 3, 5, 7, 5, 7);
        dueTerm(x, x.name(3, 8, 8, 8), 0, 3, 8, 8, 8, 22);
    }

    private void dueTerm(ShapeSearch x, int t, int... due) {
        for (int what = 0; what < due.length; what++) {
            int w = what;
            b.due("term(" + t + ", " + w + ")", due[w], () -> x.term(t, w));
        }
    }

    private void sizeAtMost() {
        b.promise(4, "Of a term: 0 NAME, 1 VARIABLE, 2 HOLE (what = 0), which (1), its places' terms (2 .. 4; NONE"
                + " without), how many terms stand in it, each place for itself, at most 1000000 (5).");
        ShapeSearch x = new ShapeSearch();
        int nearly = ofSize(x, 999999);
        b.due("one below the most", 999999, () -> x.term(nearly, 5));
        int most = x.name(0, nearly, NONE, NONE);
        b.due("the most", 1000000, () -> x.term(most, 5));
        int above = x.name(0, most, NONE, NONE);
        b.due("one above the most", 1000000, () -> x.term(above, 5));
        b.due("twice the most", 1000000, () -> x.term(x.name(1, above, above, NONE), 5));
        b.due("the most and a leaf", 1000000, () -> x.term(x.name(1, 0, most, NONE), 5));
        ShapeSearch y = new ShapeSearch();
        int t = y.leaf(0, false);
        while (y.about(0) < 100) {
            t = y.name(2, t, t, t);
        }
        for (int i = 12; i < 100; i++) {
            int great = i;
            b.due("three times as many, " + i + " times", i == 12 ? 797161 : 1000000, () -> y.term(great, 5));
        }
    }

    /** A term in which exactly so many stand. */
    private static int ofSize(ShapeSearch x, int size) {
        if (size == 1) {
            return x.leaf(0, false);
        }
        if (size % 2 == 0) {
            return x.name(0, ofSize(x, size - 1), NONE, NONE);
        }
        int half = ofSize(x, size / 2);
        return x.name(1, half, half, NONE);
    }

    private void anotherWhatOrNoSuchTerm() {
        b.promise(4, "NONE for another what, or if there is no such term.");
        ShapeSearch x = Libraries.some();
        for (int what : new int[] {-1, -2, LEAST, 6, 7, 100, GREATEST}) {
            for (int t : new int[] {Libraries.A, Libraries.V, Libraries.HOLE, Libraries.HAVW}) {
                b.due("term(" + t + ", " + what + ")", NONE, () -> x.term(t, what));
            }
        }
        for (int t : new int[] {-1, -2, LEAST, Libraries.SOME_TERMS, 99, 100, GREATEST}) {
            for (int what = -1; what < 7; what++) {
                int w = what;
                b.due("term(" + t + ", " + w + ")", NONE, () -> x.term(t, w));
            }
        }
        ShapeSearch full = Libraries.fullOfTerms();
        b.due("the hundredth is there", 98, () -> full.term(99, 2));
        for (int what = 0; what < 6; what++) {
            int w = what;
            b.due("among a hundred: term(100, " + w + ")", NONE, () -> full.term(100, w));
        }
    }

    private void aboutEmptyAndFull() {
        b.promise(15, "Terms, statements, names that were used, hits: what 0 .. 3; NONE for another what.");
        ShapeSearch x = new ShapeSearch();
        for (int n = 0; n < 30; n++) {
            int used = n;
            b.due("names used, of none to all", used, () -> x.about(2));
            x.name(n, NONE, NONE, NONE);
            x.name(n, NONE, NONE, NONE);
        }
        b.due("all thirty names, each once", 30, () -> x.about(2));
        x.leaf(0, false);
        x.leaf(0, true);
        b.due("leaves are no names", 30, () -> x.about(2));
        b.due("terms", 32, () -> x.about(0));
        for (int s = 0; s < 30; s++) {
            x.state(NONE, NONE, NONE, NONE, 0);
        }
        b.due("thirty statements", 30, () -> x.about(1));
        b.due("no hits", 0, () -> x.about(3));
        x.rank(0);
        b.due("thirty hits", 30, () -> x.about(3));
        x.find(1);
        b.due("no hits again", 0, () -> x.about(3));
        ShapeSearch full = Libraries.fullOfTerms();
        b.due("a hundred terms", 100, () -> full.about(0));
        b.due("a name counts once, however often it is used", Libraries.SOME_NAMES, () -> full.about(2));
        b.due("its hits", Libraries.SOME_HITS, () -> full.about(3));
    }

    private void aboutAnotherWhat() {
        b.promise(15, "Terms, statements, names that were used, hits: what 0 .. 3; NONE for another what.");
        for (int what : new int[] {-1, -2, LEAST, 4, 5, 100, GREATEST}) {
            b.due("new: about(" + what + ")", NONE, () -> new ShapeSearch().about(what));
            b.due("about(" + what + ")", NONE, () -> Libraries.some().about(what));
        }
    }
}
