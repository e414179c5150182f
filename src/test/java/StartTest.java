/** Promise 3: start. */
public final class StartTest {
    private static final Due due = new Due();

    public static void main(String[] args) {
        freshFrame();
        anewFromEveryState();
        badNumbers();
        due.end();
    }

    private static CoroutineFrames program() {
        CoroutineFrames x = new CoroutineFrames();
        new Code(x)
                .in(0).add(0, 1).add(0, 2).add(0, 3).set(1, 100).set(2, 200).set(3, 300).yield(0, 0).call(0, 1)
                .in(1).yield(0, 1).jpos(1, 3).ret(1).jump(3)
                .in(2).set(1, 7).ret(1);
        return x;
    }

    private static void freshFrame() {
        for (int argument : new int[] {0, 1, -1, Integer.MAX_VALUE, Integer.MIN_VALUE}) {
            CoroutineFrames x = program();
            for (int co = 0; co < 4; co++) {
                due.same("start", x.start(co, 0, argument), 0);
                due.stands("started", x, co, CoroutineFrames.READY, 0, 1, 0);
                due.same("resume", x.resume(co, 55), CoroutineFrames.WAITING);
                due.stands("R[0] is the argument", x, co, CoroutineFrames.WAITING, argument, 1, 7);
                due.same("start again", x.start(co, 0, argument), 0);
                x.resume(co, 55);
                due.same("other registers are 0 again", x.value(co), argument);
            }
        }
        CoroutineFrames x = program();
        x.start(1, 2, 3);
        x.resume(1, 0);
        due.stands("function 2", x, 1, CoroutineFrames.DONE, 7, 0, 2);
    }

    private static void anewFromEveryState() {
        CoroutineFrames x = program();
        x.start(0, 0, 5);
        x.resume(0, 0);
        x.resume(0, 5);
        due.stands("deep", x, 0, CoroutineFrames.WAITING, 5, 2, 2);
        startsAnew(x);
        x.resume(0, 0);
        due.same("done", x.resume(0, 0), CoroutineFrames.DONE);
        startsAnew(x);
        x.resume(0, 0);
        due.same("failed", x.resume(0, 1), CoroutineFrames.FAILED);
        due.stands("failed", x, 0, CoroutineFrames.FAILED, 0, 0, 80);
        startsAnew(x);
    }

    private static void startsAnew(CoroutineFrames x) {
        due.same("start", x.start(0, 1, 8), 0);
        due.stands("started anew", x, 0, CoroutineFrames.READY, 0, 1, 0);
        due.same("from instruction 0", x.resume(0, 0), CoroutineFrames.WAITING);
        due.same("value", x.value(0), 8);
        x.start(0, 1, 8);
    }

    private static void badNumbers() {
        CoroutineFrames x = program();
        x.start(0, 0, 5);
        x.resume(0, 0);
        for (int co : Code.BAD_COROUTINES) {
            due.same("start(" + co + ")", x.start(co, 0, 1), CoroutineFrames.BAD_NUMBER);
        }
        for (int function : Code.BAD_FUNCTIONS) {
            due.same("start function " + function, x.start(0, function, 1), CoroutineFrames.BAD_NUMBER);
        }
        due.stands("nothing changed", x, 0, CoroutineFrames.WAITING, 5, 1, 7);
        for (int co = 1; co < 4; co++) {
            due.stands("nothing changed", x, co, CoroutineFrames.NONE, 0, 0, 0);
        }
    }
}
