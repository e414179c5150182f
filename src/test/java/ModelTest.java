/** All promises: made-up programs and runs of calls, the same ones each time, beside the Model. */
public final class ModelTest {
    private static final int RUNS = 4000;
    private static final int CALLS = 512;
    private static final int[] REACHED = new int[6];

    private static final Due due = new Due();
    private static long seed = 20261115;
    private static CoroutineFrames x;
    private static Model model;

    public static void main(String[] args) {
        for (int run = 0; run < RUNS && !due.anyWrong(); run++) {
            oneRun(run);
        }
        for (int state = 1; state <= 4; state++) {
            due.yes("the runs reach state " + state + " often", REACHED[state] > RUNS);
        }
        due.yes("the runs reach four frames often", REACHED[5] > RUNS / 8);
        due.end();
    }

    private static int below(int bound) {
        seed = seed * 6364136223846793005L + 1442695040888963407L;
        return (int) ((seed >>> 33) % bound);
    }

    private static int number() {
        int kind = below(12);
        if (kind == 0) {
            return below(2) == 0 ? Integer.MAX_VALUE : Integer.MIN_VALUE;
        }
        return kind == 1 ? below(200) - 100 : below(13) - 4;
    }

    private static int numberBelow(int bound) {
        return below(40) == 0 ? number() : below(bound);
    }

    private static void oneRun(int run) {
        x = new CoroutineFrames();
        model = new Model();
        int calls = below(30);
        for (int i = 0; i < calls; i++) {
            emit("run " + run);
        }
        for (; calls < CALLS - 20 && !due.anyWrong(); calls += 6) {
            oneCall("run " + run + " call " + calls);
        }
    }

    private static void emit(String when) {
        int function = numberBelow(3);
        // YIELD and CALL more often than the rest, for deep chains that wait.
        int op = below(3) == 0 ? 5 + below(2) : numberBelow(8);
        int regs = below(20) == 0 ? number() : below(16);
        int c = number();
        String call = when + ": emit(" + function + ", " + op + ", " + regs + ", " + c + ")";
        due.same(call, x.emit(function, op, regs, c), model.emit(function, op, regs, c));
    }

    private static void oneCall(String when) {
        int co = numberBelow(4);
        int other = numberBelow(4);
        int n = number();
        int kind = below(20);
        if (kind == 0) {
            emit(when);
        } else if (kind < 5) {
            int function = numberBelow(3);
            String call = when + ": start(" + co + ", " + function + ", " + n + ")";
            due.same(call, x.start(co, function, n), model.start(co, function, n));
        } else if (kind < 15) {
            due.same(when + ": resume(" + co + ", " + n + ")", x.resume(co, n), model.resume(co, n));
        } else if (kind < 17) {
            int times = below(4) == 0 ? n : below(25);
            due.same(when + ": echo(" + co + ", " + times + ")", x.echo(co, times), model.echo(co, times));
        } else if (kind < 19) {
            due.same(when + ": copy(" + co + ", " + other + ")", x.copy(co, other), model.copy(co, other));
        } else {
            due.same(when + ": drop(" + co + ")", x.drop(co), model.drop(co));
        }
        compare(when, co, other);
    }

    private static void compare(String when, int co, int other) {
        int state = x.state(co);
        due.same(when + ": state(" + co + ")", state, model.state(co));
        due.same(when + ": value(" + co + ")", x.value(co), model.value(co));
        int depth = x.depth(co);
        due.same(when + ": depth(" + co + ")", depth, model.depth(co));
        due.same(when + ": steps(" + co + ")", x.steps(co), model.steps(co));
        due.same(when + ": alike(" + co + ", " + other + ")", x.alike(co, other) ? 1 : 0, model.alike(co, other) ? 1 : 0);
        if (state > 0) {
            REACHED[state]++;
        }
        if (depth == 4) {
            REACHED[5]++;
        }
    }
}
