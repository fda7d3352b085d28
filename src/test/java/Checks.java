/** Counts the answers that are not as due, and ends the test with code 1 if there was one. */
final class Checks {
    interface Call {
        Object answer();
    }

    private int made = 0;
    private int wrong = 0;

    void due(String call, Object due, Call run) {
        made++;
        Object got = answerOf(run);
        if (!due.equals(got)) {
            wrong++;
            System.out.println(call + " answered " + got + ", due is " + due);
        }
    }

    /** Of hit i: what = 0, 1, 2 and so on. */
    void dueHits(ShapeSearch x, String of, int i, int... due) {
        for (int what = 0; what < due.length; what++) {
            int w = what;
            due(of + ": hit(" + i + ", " + what + ")", due[what], () -> x.hit(i, w));
        }
    }

    /** The answer, or the simple name of what was thrown, behind "throws.". */
    static Object answerOf(Call run) {
        try {
            return run.answer();
        } catch (Throwable thrown) {
            return "throws." + thrown.getClass().getSimpleName();
        }
    }

    void end(String test) {
        System.out.println(test + ": " + made + " answers, " + wrong + " not as due");
        if (wrong != 0 || made == 0) {
            System.exit(1);
        }
    }
}
