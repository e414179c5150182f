/** Counts and prints the answers that are not as due; a test ends with exit code 1 if there was one. */
final class Due {
    private int wrong = 0;

    void same(String call, long got, long want) {
        if (got != want) {
            wrong++;
            System.out.println(call + " answered " + got + ", due is " + want);
        }
    }

    void yes(String call, boolean got) {
        same(call, got ? 1 : 0, 1);
    }

    void no(String call, boolean got) {
        same(call, got ? 1 : 0, 0);
    }

    /** All that an object tells of one coroutine. */
    void stands(String when, CoroutineFrames x, int co, int state, int value, int depth, int steps) {
        same(when + ": state(" + co + ")", x.state(co), state);
        same(when + ": value(" + co + ")", x.value(co), value);
        same(when + ": depth(" + co + ")", x.depth(co), depth);
        same(when + ": steps(" + co + ")", x.steps(co), steps);
    }

    boolean anyWrong() {
        return wrong > 0;
    }

    void end() {
        if (wrong > 0) {
            System.out.println(wrong + " answers are not as due");
            System.exit(1);
        }
    }
}
