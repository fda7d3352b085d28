import java.util.Arrays;

/** A library of statements that is searched by shapes: see the README for its use. */
public final class ShapeSearch {
    public static final int NONE = -1;

    private static final int MOST_TERMS = 100;
    private static final int MOST_PLACES = 3;
    private static final int MOST_STATEMENTS = 30;
    private static final int MOST_PREMISES = 4;
    private static final int MOST_SIZE = 1000000;
    private static final int MOST_STEPS = 100;
    private static final int MOST_TRIES = 1000;

    // A term's head is one number for its kind and which of that kind it is,
    // so that all that stands in a term goes into one mask.
    private static final int NAMES = 30;
    private static final int VARIABLES = 8;
    private static final int HOLES = 4;
    private static final int FIRST_VARIABLE = NAMES;
    private static final int FIRST_HOLE = FIRST_VARIABLE + VARIABLES;
    private static final long NAME_BITS = (1L << NAMES) - 1;
    private static final long VARIABLE_BITS = ((1L << VARIABLES) - 1) << FIRST_VARIABLE;
    private static final long HOLE_BITS = ((1L << HOLES) - 1) << FIRST_HOLE;

    private static final int FOUND = 1;
    private static final int FITTING = 2;
    private static final int RANKED = 3;
    private static final int FIRST_BINDING = 4;

    private final Terms terms;
    private final int[] arities;
    private int namesUsed;
    private final Statements statements;
    private final Matcher matcher;
    private final Finder finder;
    private final Search search;
    private final Hits hits;

    public ShapeSearch() {
        terms = new Terms();
        arities = new int[NAMES];
        Arrays.fill(arities, NONE);
        namesUsed = 0;
        statements = new Statements();
        matcher = new Matcher(terms);
        finder = new Finder(terms, matcher);
        search = new Search(terms, statements, matcher);
        hits = new Hits();
    }

    public int name(int name, int a, int b, int c)
            throws IndexOutOfBoundsException, IllegalArgumentException, IllegalStateException {
        int arity = leading(a, b, c, NONE);
        if (name < 0 || name >= NAMES || !areTerms(arity, a, b, c, NONE)) {
            throw new IndexOutOfBoundsException("no such name or term");
        }
        if (arities[name] != NONE && arities[name] != arity) {
            throw new IllegalArgumentException("the name was used with more or fewer terms");
        }
        int second = arity > 1 ? b : NONE;
        int third = arity > 2 ? c : NONE;
        int made = terms.make(name, a, second, third, MOST_TERMS);
        if (made == NONE) {
            throw new IllegalStateException("there are 100 terms");
        }
        if (arities[name] == NONE) {
            arities[name] = arity;
            namesUsed++;
        }
        return made;
    }

    public int leaf(int which, boolean hole) throws IndexOutOfBoundsException, IllegalStateException {
        if (which < 0 || which >= (hole ? HOLES : VARIABLES)) {
            throw new IndexOutOfBoundsException("no such variable or hole");
        }
        int head = (hole ? FIRST_HOLE : FIRST_VARIABLE) + which;
        int made = terms.make(head, NONE, NONE, NONE, MOST_TERMS);
        if (made == NONE) {
            throw new IllegalStateException("there are 100 terms");
        }
        return made;
    }

    public int term(int t, int what) {
        if (!terms.has(t)) {
            return NONE;
        }
        int head = terms.head(t);
        switch (what) {
            case 0:
                return head < FIRST_VARIABLE ? 0 : head < FIRST_HOLE ? 1 : 2;
            case 1:
                return head < FIRST_VARIABLE ? head : head < FIRST_HOLE ? head - FIRST_VARIABLE : head - FIRST_HOLE;
            case 2:
            case 3:
            case 4:
                return terms.place(t, what - 2);
            case 5:
                return terms.size(t);
            default:
                return NONE;
        }
    }

    public int state(int a, int b, int c, int d, int conclusion)
            throws IndexOutOfBoundsException, IllegalArgumentException, IllegalStateException {
        int premises = leading(a, b, c, d);
        if (!areTerms(premises, a, b, c, d) || !terms.has(conclusion)) {
            throw new IndexOutOfBoundsException("no such term");
        }
        if (holeStandsIn(premises, a, b, c, d) || terms.holds(conclusion, HOLE_BITS)) {
            throw new IllegalArgumentException("a hole stands in it");
        }
        int made = statements.add(premises, a, b, c, d, conclusion);
        if (made == NONE) {
            throw new IllegalStateException("there are 30 statements");
        }
        hits.clear();
        return made;
    }

    public boolean forget() {
        hits.clear();
        return statements.dropLatest();
    }

    public int find(int shape) throws IndexOutOfBoundsException {
        if (!terms.has(shape)) {
            throw new IndexOutOfBoundsException("no such term");
        }
        hits.begin(FOUND, shape);
        finder.begin(shape);
        for (int s = 0; s < statements.count(); s++) {
            if (finder.finds(statements, s)) {
                hits.add(s, finder.premise(), finder.match());
            }
        }
        return hits.count();
    }

    public int fit(int goal) throws IndexOutOfBoundsException, IllegalArgumentException {
        checkGoal(goal);
        hits.begin(FITTING, goal);
        statements.putInOrder();
        for (int i = 0; i < statements.count(); i++) {
            int s = statements.ordered(i);
            if (matcher.matches(statements.conclusion(s), goal, VARIABLE_BITS)) {
                hits.add(s, statements.openVariables(s, terms), statements.premises(s));
            }
        }
        return hits.count();
    }

    public int rank(int goal) throws IndexOutOfBoundsException, IllegalArgumentException {
        checkGoal(goal);
        hits.begin(RANKED, goal);
        long wanted = terms.within(goal) & NAME_BITS;
        for (int s = 0; s < statements.count(); s++) {
            long own = statements.within(s, terms) & NAME_BITS;
            int all = Long.bitCount(own | wanted);
            hits.addByShare(s, Long.bitCount(own & wanted), all == 0 ? 1 : all);
        }
        return hits.count();
    }

    public int hit(int i, int what) {
        if (!hits.has(i)) {
            return NONE;
        }
        switch (what) {
            case 0:
                return hits.statement(i);
            case 1:
                return hits.first(i);
            case 2:
                return hits.second(i);
            default:
                return binding(i, what);
        }
    }

    public int goal(int i, int k) throws IndexOutOfBoundsException, IllegalStateException {
        if (!hits.has(i) || hits.kind() != FITTING || k < 0 || k >= hits.second(i)) {
            throw new IndexOutOfBoundsException("no such new goal");
        }
        int s = hits.statement(i);
        matcher.matches(statements.conclusion(s), hits.subject(), VARIABLE_BITS);
        int made = matcher.instance(statements.premise(s, k), MOST_TERMS);
        if (made == NONE) {
            throw new IllegalStateException("there would be more than 100 terms");
        }
        return made;
    }

    public int twin(int statement) throws IndexOutOfBoundsException {
        if (statement < 0 || statement >= statements.count()) {
            throw new IndexOutOfBoundsException("no such statement");
        }
        for (int s = 0; s < statement; s++) {
            // Each becomes the other only if their variables change places one for one.
            if (matcher.covers(statements, s, statement) && matcher.covers(statements, statement, s)) {
                return s;
            }
        }
        return NONE;
    }

    public boolean follows(int goal, int steps)
            throws IndexOutOfBoundsException, IllegalArgumentException, UnsupportedOperationException {
        checkGoal(goal);
        if (!search.ends(goal, steps)) {
            throw new UnsupportedOperationException("more than 1000 tries");
        }
        return search.taken() > 0;
    }

    public int tried(int what) {
        switch (what) {
            case 0:
                return search.tries();
            case 1:
                return search.taken();
            case 2:
                return search.first();
            default:
                return NONE;
        }
    }

    public int about(int what) {
        switch (what) {
            case 0:
                return terms.count();
            case 1:
                return statements.count();
            case 2:
                return namesUsed;
            case 3:
                return hits.count();
            default:
                return NONE;
        }
    }

    /** How many stand ahead of the first that is NONE. */
    private static int leading(int a, int b, int c, int d) {
        if (a == NONE) {
            return 0;
        }
        if (b == NONE) {
            return 1;
        }
        if (c == NONE) {
            return 2;
        }
        return d == NONE ? 3 : 4;
    }

    private boolean areTerms(int many, int a, int b, int c, int d) {
        return (many < 1 || terms.has(a)) && (many < 2 || terms.has(b))
                && (many < 3 || terms.has(c)) && (many < 4 || terms.has(d));
    }

    private boolean holeStandsIn(int many, int a, int b, int c, int d) {
        return (many > 0 && terms.holds(a, HOLE_BITS)) || (many > 1 && terms.holds(b, HOLE_BITS))
                || (many > 2 && terms.holds(c, HOLE_BITS)) || (many > 3 && terms.holds(d, HOLE_BITS));
    }

    private void checkGoal(int goal) {
        if (!terms.has(goal)) {
            throw new IndexOutOfBoundsException("no such term");
        }
        if (terms.holds(goal, HOLE_BITS)) {
            throw new IllegalArgumentException("a hole stands in the goal");
        }
    }

    /** The term of a hole or a variable of hit i: matching once more is cheaper than keeping them all. */
    private int binding(int i, int what) {
        if (hits.kind() == FOUND && what >= FIRST_BINDING && what < FIRST_BINDING + HOLES) {
            matcher.matches(hits.subject(), hits.second(i), HOLE_BITS);
            return matcher.imageOfLeaf(FIRST_HOLE + what - FIRST_BINDING);
        }
        if (hits.kind() == FITTING && what >= FIRST_BINDING && what < FIRST_BINDING + VARIABLES) {
            matcher.matches(statements.conclusion(hits.statement(i)), hits.subject(), VARIABLE_BITS);
            return matcher.imageOfLeaf(FIRST_VARIABLE + what - FIRST_BINDING);
        }
        return NONE;
    }

    /**
     * Terms, each kept once, what stands in a term ahead of it. Beyond the library's own
     * there may be passing ones, that a search makes and lets go again, the newest first.
     */
    private static final class Terms {
        private static final int FIRST_ROOM = 256;
        // A search has at most 99 new goals open at once, and each makes at most 100 passing terms.
        private static final int MOST_EVER = MOST_TERMS + (MOST_STEPS - 1) * MOST_TERMS;
        private static final int BUCKETS = 256;

        private int[] heads;
        private int[] places;
        private int[] olders;
        private int[] sizes;
        private long[] withins;
        private final int[] newest;
        private int count;

        Terms() {
            heads = new int[FIRST_ROOM];
            places = new int[FIRST_ROOM * MOST_PLACES];
            olders = new int[FIRST_ROOM];
            sizes = new int[FIRST_ROOM];
            withins = new long[FIRST_ROOM];
            newest = new int[BUCKETS];
            Arrays.fill(newest, NONE);
            count = 0;
        }

        int count() {
            return count;
        }

        boolean has(int t) {
            return t >= 0 && t < count;
        }

        int head(int t) {
            return t >= 0 && t < count ? heads[t] : NONE;
        }

        int place(int t, int k) {
            return t >= 0 && t < count && k >= 0 && k < MOST_PLACES ? places[t * MOST_PLACES + k] : NONE;
        }

        int size(int t) {
            return t >= 0 && t < count ? sizes[t] : 0;
        }

        /** A bit for each head that stands in a term. */
        long within(int t) {
            return t >= 0 && t < count ? withins[t] : 0L;
        }

        boolean holds(int t, long bits) {
            return t >= 0 && t < count && (withins[t] & bits) != 0L;
        }

        /** The number of a variable or a hole, NONE if it is no term yet. */
        int seekLeaf(int head) {
            return seek(bucket(head, NONE, NONE, NONE), head, NONE, NONE, NONE);
        }

        /** The number of such a term, made if there is none yet; NONE if it would be one above most. */
        int make(int head, int a, int b, int c, int most) {
            int bucket = bucket(head, a, b, c);
            int known = seek(bucket, head, a, b, c);
            if (known != NONE) {
                return known;
            }
            if (count >= most || count >= heads.length) {
                return NONE;
            }
            int t = count;
            heads[t] = head;
            places[t * MOST_PLACES] = a;
            places[t * MOST_PLACES + 1] = b;
            places[t * MOST_PLACES + 2] = c;
            sizes[t] = Math.min(MOST_SIZE, 1 + size(a) + size(b) + size(c));
            withins[t] = (1L << head) | within(a) | within(b) | within(c);
            olders[t] = newest[bucket];
            newest[bucket] = t;
            count++;
            return t;
        }

        /** Lets all terms from a number on go: the newest is always the first of its bucket. */
        void keepBelow(int number) {
            int least = Math.max(number, 0);
            for (int t = count - 1; t >= least; t--) {
                newest[bucket(heads[t], place(t, 0), place(t, 1), place(t, 2))] = olders[t];
                count = t;
            }
        }

        /** Sees to it that a new goal's passing terms have room; most searches need no more than the first rows. */
        void makeRoom() {
            if (count + MOST_TERMS <= heads.length || heads.length >= MOST_EVER) {
                return;
            }
            int room = Math.min(2 * heads.length, MOST_EVER);
            heads = Arrays.copyOf(heads, room);
            places = Arrays.copyOf(places, room * MOST_PLACES);
            olders = Arrays.copyOf(olders, room);
            sizes = Arrays.copyOf(sizes, room);
            withins = Arrays.copyOf(withins, room);
        }

        private int seek(int bucket, int head, int a, int b, int c) {
            int t = newest[bucket];
            for (int step = 0; step < count && t >= 0 && t < count; step++) {
                int at = t * MOST_PLACES;
                if (heads[t] == head && places[at] == a && places[at + 1] == b && places[at + 2] == c) {
                    return t;
                }
                t = olders[t];
            }
            return NONE;
        }

        private static int bucket(int head, int a, int b, int c) {
            return (head + 37 * a + 101 * b + 171 * c) & (BUCKETS - 1);
        }
    }

    /** The statements, and their order by how many premises they have. */
    private static final class Statements {
        private final int[] premises;
        private final int[] premiseCounts;
        private final int[] conclusions;
        private final int[] order;
        private int count;

        Statements() {
            premises = new int[MOST_STATEMENTS * MOST_PREMISES];
            premiseCounts = new int[MOST_STATEMENTS];
            conclusions = new int[MOST_STATEMENTS];
            order = new int[MOST_STATEMENTS];
            count = 0;
        }

        int count() {
            return count;
        }

        /** Its number, NONE if there are as many as there may be. */
        int add(int many, int a, int b, int c, int d, int conclusion) {
            if (count >= MOST_STATEMENTS) {
                return NONE;
            }
            int at = count * MOST_PREMISES;
            premises[at] = a;
            premises[at + 1] = b;
            premises[at + 2] = c;
            premises[at + 3] = d;
            premiseCounts[count] = many;
            conclusions[count] = conclusion;
            count++;
            return count - 1;
        }

        boolean dropLatest() {
            if (count == 0) {
                return false;
            }
            count--;
            return true;
        }

        int premises(int s) {
            return s >= 0 && s < count ? premiseCounts[s] : 0;
        }

        int premise(int s, int k) {
            return k >= 0 && k < premises(s) ? premises[s * MOST_PREMISES + k] : NONE;
        }

        int conclusion(int s) {
            return s >= 0 && s < count ? conclusions[s] : NONE;
        }

        private long withinPremises(int s, Terms terms) {
            long all = 0L;
            for (int k = 0; k < premises(s); k++) {
                all |= terms.within(premise(s, k));
            }
            return all;
        }

        long within(int s, Terms terms) {
            return withinPremises(s, terms) | terms.within(conclusion(s));
        }

        int openVariables(int s, Terms terms) {
            return Long.bitCount(withinPremises(s, terms) & ~terms.within(conclusion(s)) & VARIABLE_BITS);
        }

        /** Puts those with fewer premises first, of as many those with lesser numbers. */
        void putInOrder() {
            int placed = 0;
            for (int many = 0; many <= MOST_PREMISES; many++) {
                for (int s = 0; s < count; s++) {
                    if (premiseCounts[s] == many && placed < MOST_STATEMENTS) {
                        order[placed] = s;
                        placed++;
                    }
                }
            }
        }

        int ordered(int i) {
            return i >= 0 && i < count ? order[i] : NONE;
        }
    }

    /**
     * Tells what each term of a pattern becomes, its image. Within one match all that is the same
     * has the same image, so one row is enough; and as what stands in a term has a lesser
     * number than the term, one way down the row reaches every term behind all that hold it.
     */
    private static final class Matcher {
        private final Terms terms;
        private final int[] images;
        private final int[] path;

        Matcher(Terms terms) {
            this.terms = terms;
            images = new int[MOST_TERMS];
            path = new int[MOST_TERMS];
        }

        /** Whether a pattern becomes a term when the heads that are free give way to terms. */
        boolean matches(int pattern, int target, long free) {
            int head = terms.head(pattern);
            if (head < FIRST_VARIABLE && head != terms.head(target)) {
                return false;
            }
            Arrays.fill(images, NONE);
            return pair(pattern, target) && settle(free);
        }

        /** Whether a statement becomes another when its variables give way to terms. */
        boolean covers(Statements statements, int s, int other) {
            int many = statements.premises(s);
            if (many != statements.premises(other)) {
                return false;
            }
            Arrays.fill(images, NONE);
            boolean paired = pair(statements.conclusion(s), statements.conclusion(other));
            for (int k = 0; k < many && paired; k++) {
                paired = pair(statements.premise(s, k), statements.premise(other, k));
            }
            return paired && settle(VARIABLE_BITS);
        }

        int imageOfLeaf(int head) {
            return image(terms.seekLeaf(head));
        }

        /**
         * What a premise becomes, behind a match of its conclusion; a variable without an image stays.
         * The terms for it are made from within, first places first; NONE if there are too many.
         */
        int instance(int premise, int most) {
            if (premise < 0 || premise >= MOST_TERMS || images[premise] != NONE) {
                return image(premise);
            }
            path[0] = premise;
            int depth = 1;
            // Each term comes on the path once and leaves it once.
            for (int move = 0; move < 2 * MOST_TERMS && depth > 0; move++) {
                int s = path[depth - 1];
                int inner = placeWithoutImage(s);
                if (inner != NONE && depth < MOST_TERMS) {
                    path[depth] = inner;
                    depth++;
                } else if (putImage(s, most)) {
                    depth--;
                } else {
                    return NONE;
                }
            }
            return images[premise];
        }

        private int image(int s) {
            return s >= 0 && s < MOST_TERMS ? images[s] : NONE;
        }

        /** Whether a term may become another one, for all that is known so far. */
        private boolean pair(int s, int t) {
            if (s < 0 || s >= MOST_TERMS || t == NONE) {
                return false;
            }
            if (images[s] == NONE) {
                images[s] = t;
            }
            return images[s] == t;
        }

        private boolean settle(long free) {
            for (int s = MOST_TERMS - 1; s >= 0; s--) {
                if (images[s] != NONE && !agrees(s, images[s], free)) {
                    return false;
                }
            }
            return true;
        }

        private boolean agrees(int s, int t, long free) {
            if (!terms.holds(s, free)) {
                return s == t;
            }
            int head = terms.head(s);
            if (head >= FIRST_VARIABLE) {
                return true;
            }
            if (head != terms.head(t)) {
                return false;
            }
            for (int k = 0; k < MOST_PLACES; k++) {
                int place = terms.place(s, k);
                if (place != NONE && !pair(place, terms.place(t, k))) {
                    return false;
                }
            }
            return true;
        }

        private int placeWithoutImage(int s) {
            for (int k = 0; k < MOST_PLACES; k++) {
                int place = terms.place(s, k);
                if (place != NONE && image(place) == NONE) {
                    return place;
                }
            }
            return NONE;
        }

        private boolean putImage(int s, int most) {
            int head = terms.head(s);
            int made = s;
            if (head < FIRST_VARIABLE) {
                made = terms.make(head, image(terms.place(s, 0)), image(terms.place(s, 1)),
                        image(terms.place(s, 2)), most);
            }
            if (s >= 0 && s < MOST_TERMS) {
                images[s] = made;
            }
            return made != NONE;
        }
    }

    /** Looks for the first term in a statement that matches a shape. */
    private static final class Finder {
        private static final int MOST_WAITING = 1 + MOST_TERMS * MOST_PLACES;

        private final Terms terms;
        private final Matcher matcher;
        private final boolean[] seen;
        private final int[] waiting;
        private int shape;
        private int match;
        private int premise;

        Finder(Terms terms, Matcher matcher) {
            this.terms = terms;
            this.matcher = matcher;
            seen = new boolean[MOST_TERMS];
            waiting = new int[MOST_WAITING];
            shape = NONE;
            match = NONE;
            premise = NONE;
        }

        void begin(int newShape) {
            shape = newShape;
        }

        int match() {
            return match;
        }

        /** The premise that has the match, NONE the conclusion. */
        int premise() {
            return premise;
        }

        boolean finds(Statements statements, int s) {
            forgetSeen();
            premise = NONE;
            match = firstIn(statements.conclusion(s));
            for (int k = 0; k < statements.premises(s) && match == NONE; k++) {
                premise = k;
                match = firstIn(statements.premise(s, k));
            }
            return match != NONE;
        }

        private void forgetSeen() {
            for (int t = 0; t < MOST_TERMS; t++) {
                seen[t] = false;
            }
        }

        /** The first that matches, from the outside; what was seen before without a match is passed over. */
        private int firstIn(int whole) {
            int many = 1;
            waiting[0] = whole;
            for (int step = 0; step < MOST_WAITING && many > 0; step++) {
                many--;
                int t = waiting[many];
                if (t < 0 || t >= MOST_TERMS || seen[t]) {
                    continue;
                }
                seen[t] = true;
                if (matcher.matches(shape, t, HOLE_BITS)) {
                    return t;
                }
                // The last place goes first, so that the first place comes up first.
                for (int k = MOST_PLACES - 1; k >= 0; k--) {
                    int place = terms.place(t, k);
                    if (place != NONE && many < MOST_WAITING) {
                        waiting[many] = place;
                        many++;
                    }
                }
            }
            return NONE;
        }
    }

    /**
     * Whether a goal follows. A level is a goal with the statement that is under way for it;
     * the levels stand in rows, so that a hundred steps need no deep calls.
     */
    private static final class Search {
        private static final int MOST_MOVES = 1000000;

        private final Terms terms;
        private final Statements statements;
        private final Matcher matcher;
        private final int[] goals;
        private final int[] marks;
        private final int[] looked;
        private final int[] underway;
        private final int[] met;
        private final int[] takenHere;
        private int level;
        private int steps;
        private int tries;
        private int taken;
        private int first;

        Search(Terms terms, Statements statements, Matcher matcher) {
            this.terms = terms;
            this.statements = statements;
            this.matcher = matcher;
            goals = new int[MOST_STEPS];
            marks = new int[MOST_STEPS];
            looked = new int[MOST_STEPS];
            underway = new int[MOST_STEPS];
            met = new int[MOST_STEPS];
            takenHere = new int[MOST_STEPS];
            level = NONE;
            steps = 0;
            tries = 0;
            taken = 0;
            first = NONE;
        }

        int tries() {
            return tries;
        }

        int taken() {
            return taken;
        }

        int first() {
            return first;
        }

        /** Whether the search ends within the tries that there are. */
        boolean ends(int goal, int mostSteps) {
            steps = Math.min(mostSteps, MOST_STEPS);
            level = NONE;
            tries = 0;
            taken = 0;
            first = NONE;
            statements.putInOrder();
            int mark = terms.count();
            enter(goal, mark);
            boolean going = true;
            for (int move = 0; move < MOST_MOVES && going && level >= 0; move++) {
                int s = underway[level];
                if (s == NONE) {
                    going = looks();
                } else if (met[level] >= statements.premises(s)) {
                    succeed(s);
                } else {
                    enterNewGoal(s);
                }
            }
            terms.keepBelow(mark);
            return going;
        }

        /** Opens a level for a goal if there is a step for it. */
        private boolean enter(int goal, int mark) {
            if (level + 1 >= steps || level + 1 >= MOST_STEPS) {
                return false;
            }
            level++;
            goals[level] = goal;
            marks[level] = mark;
            looked[level] = 0;
            underway[level] = NONE;
            return true;
        }

        /** Looks at the next statement, or gives the goal up behind the last; false if the tries are used up. */
        private boolean looks() {
            int s = statements.ordered(looked[level]);
            if (s == NONE) {
                giveUp();
                return true;
            }
            if (tries >= MOST_TRIES) {
                return false;
            }
            tries++;
            looked[level]++;
            if (statements.openVariables(s, terms) == 0
                    && matcher.matches(statements.conclusion(s), goals[level], VARIABLE_BITS)) {
                underway[level] = s;
                met[level] = 0;
                takenHere[level] = 1;
            }
            return true;
        }

        /** Goes on with the statement's next new goal, or leaves the statement if there is no step for it. */
        private void enterNewGoal(int s) {
            int here = level;
            int mark = terms.count();
            boolean entered = false;
            if (level + 1 < steps) {
                terms.makeRoom();
                matcher.matches(statements.conclusion(s), goals[level], VARIABLE_BITS);
                int goal = matcher.instance(statements.premise(s, met[level]), Terms.MOST_EVER);
                entered = goal != NONE && enter(goal, mark);
            }
            if (!entered) {
                underway[here] = NONE;
            }
        }

        private void succeed(int s) {
            int all = takenHere[level];
            terms.keepBelow(marks[level]);
            level--;
            if (level >= 0) {
                met[level]++;
                takenHere[level] += all;
            } else {
                taken = all;
                first = s;
            }
        }

        private void giveUp() {
            terms.keepBelow(marks[level]);
            level--;
            if (level >= 0) {
                underway[level] = NONE;
            }
        }
    }

    /** The hits of the latest search, each a statement with two numbers. */
    private static final class Hits {
        private final int[] statementRow;
        private final int[] firstRow;
        private final int[] secondRow;
        private int kind;
        private int subject;
        private int count;

        Hits() {
            statementRow = new int[MOST_STATEMENTS];
            firstRow = new int[MOST_STATEMENTS];
            secondRow = new int[MOST_STATEMENTS];
            kind = NONE;
            subject = NONE;
            count = 0;
        }

        void clear() {
            begin(NONE, NONE);
        }

        void begin(int newKind, int newSubject) {
            kind = newKind;
            subject = newSubject;
            count = 0;
        }

        void add(int s, int first, int second) {
            if (count < MOST_STATEMENTS) {
                put(count, s, first, second);
                count++;
            }
        }

        /** Adds a hit behind all whose share, first of second, is not less. */
        void addByShare(int s, int first, int second) {
            int at = count;
            add(s, first, second);
            for (; at > 0 && at < count && firstRow[at - 1] * second < first * secondRow[at - 1]; at--) {
                put(at, statementRow[at - 1], firstRow[at - 1], secondRow[at - 1]);
                put(at - 1, s, first, second);
            }
        }

        private void put(int at, int s, int first, int second) {
            statementRow[at] = s;
            firstRow[at] = first;
            secondRow[at] = second;
        }

        int kind() {
            return kind;
        }

        /** The shape or the goal that was searched for. */
        int subject() {
            return subject;
        }

        int count() {
            return count;
        }

        boolean has(int i) {
            return i >= 0 && i < count;
        }

        int statement(int i) {
            return has(i) ? statementRow[i] : NONE;
        }

        int first(int i) {
            return has(i) ? firstRow[i] : NONE;
        }

        int second(int i) {
            return has(i) ? secondRow[i] : NONE;
        }
    }
}
