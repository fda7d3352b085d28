import java.util.Random;

/** Runs of calls, always the same ones, that the class and the model must answer alike. */
public final class ModelTest {
    private static final int RUNS = 4000;
    private static final int CALLS = 512;
    private static final int MOST_CALLS_TO_BUILD = 350;
    private static final int GREATEST_ARGUMENT = 40;

    private final Checks checks;
    private final Random random;
    private final int run;
    private final ShapeSearch x = new ShapeSearch();
    private final Model model = new Model();
    private final int names;
    private final int variables;
    private final int callsToBuild;
    private int made = 0;

    private ModelTest(Checks checks, int run) {
        this.checks = checks;
        this.run = run;
        random = new Random(run);
        names = run % 7 == 0 ? 30 : 3 + random.nextInt(6);
        variables = run % 5 == 0 ? 8 : 1 + random.nextInt(3);
        callsToBuild = random.nextInt(MOST_CALLS_TO_BUILD);
    }

    public static void main(String[] args) {
        Checks checks = new Checks();
        for (int run = 0; run < RUNS; run++) {
            new ModelTest(checks, run).calls();
        }
        checks.end("ModelTest");
    }

    private void calls() {
        while (made < CALLS) {
            // Most runs begin with calls that fill the library, so that the limits are met.
            int which = random.nextInt(made < callsToBuild ? 36 : 100);
            if (which < 18) {
                callName();
            } else if (which < 24) {
                callLeaf();
            } else if (which < 34) {
                callState();
            } else if (which < 36) {
                alike("forget()", x::forget, model::forget);
            } else if (which < 62) {
                callSearch();
            } else if (which < 74) {
                callGoal();
            } else if (which < 80) {
                int s = pick(model.about(1));
                alike("twin(" + s + ")", () -> x.twin(s), () -> model.twin(s));
            } else if (which < 92) {
                callFollows();
            } else {
                callTermOrAbout();
            }
        }
    }

    /** What an object answers beyond the calls that it is promised for is free, so it is not asked. */
    private void alike(String call, Checks.Call own, Checks.Call due) {
        if (made == CALLS) {
            return;
        }
        made++;
        checks.due("run " + run + ": " + call, Checks.answerOf(due), own);
    }

    /** Mostly one of so many, now and then none of them. */
    private int pick(int many) {
        int odd = random.nextInt(40);
        if (odd == 0) {
            return new int[] {-1, -2, many, many + 1, 1000, Integer.MIN_VALUE, Integer.MAX_VALUE}[random.nextInt(7)];
        }
        return many == 0 ? -1 : random.nextInt(many);
    }

    /** A term that the model can still write out; later ones more often than earlier ones. */
    private int pickTerm() {
        int many = model.about(0);
        int t = Math.max(pick(many), random.nextInt(3) == 0 ? pick(many) : -1);
        return model.term(t, 5) > GREATEST_ARGUMENT ? pick(Math.min(many, 5)) : t;
    }

    private int pickWithoutHole() {
        int t = pickTerm();
        for (int i = 0; i < 6 && hasHole(t); i++) {
            t = pickTerm();
        }
        return t;
    }

    private boolean hasHole(int t) {
        if (model.term(t, 0) == 2) {
            return true;
        }
        boolean found = false;
        for (int k = 2; k < 5 && model.term(t, k) >= 0; k++) {
            found |= hasHole(model.term(t, k));
        }
        return found;
    }

    private void callName() {
        int n = random.nextInt(30) == 0 ? pick(30) : random.nextInt(names);
        // Name n mostly has as many places as the model would let it have.
        int arity = random.nextInt(12) == 0 ? random.nextInt(4) : n % 4;
        int a = arity > 0 ? pickTerm() : -1;
        int b = arity > 1 ? pickTerm() : -1;
        int c = arity > 2 ? pickTerm() : -1;
        alike("name(" + n + ", " + a + ", " + b + ", " + c + ")",
                () -> x.name(n, a, b, c), () -> model.name(n, a, b, c));
    }

    private void callLeaf() {
        boolean hole = random.nextInt(4) == 0;
        int which = random.nextInt(20) == 0 ? pick(9) : random.nextInt(hole ? 4 : variables);
        alike("leaf(" + which + ", " + hole + ")", () -> x.leaf(which, hole), () -> model.leaf(which, hole));
    }

    private void callState() {
        int[] p = {-1, -1, -1, -1};
        int many = new int[] {0, 0, 1, 1, 1, 2, 2, 3, 4}[random.nextInt(9)];
        for (int k = 0; k < many; k++) {
            p[k] = pickWithoutHole();
        }
        // A variable alone would fit every goal.
        int once = pickWithoutHole();
        int c = model.term(once, 0) == 1 && random.nextInt(5) > 0 ? pickWithoutHole() : once;
        alike("state(" + p[0] + ", " + p[1] + ", " + p[2] + ", " + p[3] + ", " + c + ")",
                () -> x.state(p[0], p[1], p[2], p[3], c), () -> model.state(p[0], p[1], p[2], p[3], c));
    }

    private void callSearch() {
        int which = random.nextInt(3);
        int t = which == 0 ? pickTerm() : pickWithoutHole();
        if (which == 0) {
            alike("find(" + t + ")", () -> x.find(t), () -> model.find(t));
        } else if (which == 1) {
            alike("fit(" + t + ")", () -> x.fit(t), () -> model.fit(t));
        } else {
            alike("rank(" + t + ")", () -> x.rank(t), () -> model.rank(t));
        }
        int asked = random.nextInt(12);
        for (int n = 0; n < asked; n++) {
            int i = pick(model.about(3));
            int what = random.nextInt(14) - 1;
            alike("hit(" + i + ", " + what + ")", () -> x.hit(i, what), () -> model.hit(i, what));
        }
        if (which == 1) {
            callGoal();
            callGoal();
        }
    }

    private void callGoal() {
        int i = pick(model.about(3));
        int k = pick(2);
        alike("goal(" + i + ", " + k + ")", () -> x.goal(i, k), () -> model.goal(i, k));
    }

    private void callFollows() {
        int t = pickWithoutHole();
        int steps = new int[] {0, 1, 2, 3, 4, 6, 20, 100, 101, pick(8)}[random.nextInt(10)];
        alike("follows(" + t + ", " + steps + ")", () -> x.follows(t, steps), () -> model.follows(t, steps));
        for (int what = -1; what < 4; what++) {
            int w = what;
            alike("tried(" + w + ")", () -> x.tried(w), () -> model.tried(w));
        }
    }

    private void callTermOrAbout() {
        int t = pickTerm();
        int what = random.nextInt(8) - 1;
        alike("term(" + t + ", " + what + ")", () -> x.term(t, what), () -> model.term(t, what));
        alike("about(" + what + ")", () -> x.about(what), () -> model.about(what));
    }
}
