import java.util.Random;

/** Long runs of calls, always the same ones, that the class and the model must answer alike. */
public final class ModelTest {
    private static final int RUNS = 1500;
    private static final int CALLS = 512;
    private static final int GREATEST_ARGUMENT = 40;

    private final Checks checks;
    private final Random random;
    private final int run;
    private final ShapeSearch x = new ShapeSearch();
    private final Model model = new Model();
    private final int names;
    private final int variables;

    private ModelTest(Checks checks, int run) {
        this.checks = checks;
        this.run = run;
        random = new Random(run);
        names = run % 7 == 0 ? 30 : 3 + random.nextInt(6);
        variables = run % 5 == 0 ? 8 : 1 + random.nextInt(3);
    }

    public static void main(String[] args) {
        Checks checks = new Checks();
        for (int run = 0; run < RUNS; run++) {
            new ModelTest(checks, run).calls();
        }
        checks.end("ModelTest");
    }

    private void calls() {
        int done = 0;
        while (done < CALLS) {
            int which = random.nextInt(100);
            if (which < 12) {
                callName();
            } else if (which < 16) {
                callLeaf();
            } else if (which < 26) {
                callState();
            } else if (which < 29) {
                alike("forget()", x::forget, model::forget);
            } else if (which < 50) {
                done += callSearch();
            } else if (which < 62) {
                callGoal();
            } else if (which < 68) {
                int s = pick(model.about(1));
                alike("twin(" + s + ")", () -> x.twin(s), () -> model.twin(s));
            } else if (which < 80) {
                done += callFollows();
            } else {
                callTermOrAbout();
            }
            done++;
        }
    }

    private void alike(String call, Checks.Call own, Checks.Call due) {
        checks.due("run " + run + ": " + call, Checks.answerOf(due), own);
    }

    /** Mostly one of so many, now and then none of them. */
    private int pick(int many) {
        int odd = random.nextInt(40);
        if (odd == 0) {
            return new int[] {-1, -2, many, many + 1, 1000, Integer.MIN_VALUE, Integer.MAX_VALUE}[random.nextInt(7)];
        }
        return many == 0 ? -1 : random.nextInt(many);
    }

    /** A term that the model can still write out; later ones more often than earlier ones. */
    private int pickTerm() {
        int many = model.about(0);
        int t = Math.max(pick(many), random.nextInt(3) == 0 ? pick(many) : -1);
        return x.term(t, 5) > GREATEST_ARGUMENT ? pick(Math.min(many, 5)) : t;
    }

    private int pickWithoutHole() {
        int t = pickTerm();
        for (int i = 0; i < 6 && hasHole(t); i++) {
            t = pickTerm();
        }
        return t;
    }

    private boolean hasHole(int t) {
        if (x.term(t, 0) == 2) {
            return true;
        }
        boolean found = false;
        for (int k = 2; k < 5 && x.term(t, k) >= 0; k++) {
            found |= hasHole(x.term(t, k));
        }
        return found;
    }

    private void callName() {
        int n = random.nextInt(30) == 0 ? pick(30) : random.nextInt(names);
        // Name n mostly has as many places as the model would let it have.
        int arity = random.nextInt(12) == 0 ? random.nextInt(4) : n % 4;
        int a = arity > 0 ? pickTerm() : -1;
        int b = arity > 1 ? pickTerm() : -1;
        int c = arity > 2 ? pickTerm() : -1;
        alike("name(" + n + ", " + a + ", " + b + ", " + c + ")",
                () -> x.name(n, a, b, c), () -> model.name(n, a, b, c));
    }

    private void callLeaf() {
        boolean hole = random.nextInt(4) == 0;
        int which = random.nextInt(20) == 0 ? pick(9) : random.nextInt(hole ? 4 : variables);
        alike("leaf(" + which + ", " + hole + ")", () -> x.leaf(which, hole), () -> model.leaf(which, hole));
    }

    private void callState() {
        int[] p = {-1, -1, -1, -1};
        int many = new int[] {0, 0, 1, 1, 1, 2, 2, 3, 4}[random.nextInt(9)];
        for (int k = 0; k < many; k++) {
            p[k] = pickWithoutHole();
        }
        int c = pickWithoutHole();
        alike("state(" + p[0] + ", " + p[1] + ", " + p[2] + ", " + p[3] + ", " + c + ")",
                () -> x.state(p[0], p[1], p[2], p[3], c), () -> model.state(p[0], p[1], p[2], p[3], c));
    }

    private int callSearch() {
        int which = random.nextInt(3);
        int t = which == 0 ? pickTerm() : pickWithoutHole();
        if (which == 0) {
            alike("find(" + t + ")", () -> x.find(t), () -> model.find(t));
        } else if (which == 1) {
            alike("fit(" + t + ")", () -> x.fit(t), () -> model.fit(t));
        } else {
            alike("rank(" + t + ")", () -> x.rank(t), () -> model.rank(t));
        }
        int asked = 0;
        for (int i = -1; i < Math.min(5, model.about(3) + 1); i++) {
            for (int what = -1; what < 13; what++) {
                int j = i;
                int w = what;
                alike("hit(" + j + ", " + w + ")", () -> x.hit(j, w), () -> model.hit(j, w));
            }
            asked++;
        }
        return asked;
    }

    private void callGoal() {
        int i = pick(model.about(3));
        int k = pick(2);
        alike("goal(" + i + ", " + k + ")", () -> x.goal(i, k), () -> model.goal(i, k));
    }

    private int callFollows() {
        int t = pickWithoutHole();
        int steps = new int[] {0, 1, 2, 3, 4, 6, 20, 100, 101, pick(8)}[random.nextInt(10)];
        alike("follows(" + t + ", " + steps + ")", () -> x.follows(t, steps), () -> model.follows(t, steps));
        for (int what = -1; what < 4; what++) {
            int w = what;
            alike("tried(" + w + ")", () -> x.tried(w), () -> model.tried(w));
        }
        return 3;
    }

    private void callTermOrAbout() {
        int t = pickTerm();
        for (int what = -1; what < 7; what++) {
            int w = what;
            alike("term(" + t + ", " + w + ")", () -> x.term(t, w), () -> model.term(t, w));
            alike("about(" + w + ")", () -> x.about(w), () -> model.about(w));
        }
    }
}
