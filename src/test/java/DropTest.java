/** Promises 7 and 13: drop, and steps after it. */
public final class DropTest {
    private static final Due due = new Due();

    public static void main(String[] args) {
        for (int co = 0; co < 4; co++) {
            everyState(co);
        }
        badNumbers();
        due.end();
    }

    private static void everyState(int co) {
        CoroutineFrames x = new CoroutineFrames();
        new Code(x).in(0).yield(0, 1).jpos(1, 3).ret(0).jump(3);
        dropped(x, co, CoroutineFrames.NONE);
        x.start(co, 0, 5);
        dropped(x, co, CoroutineFrames.READY);
        x.start(co, 0, 5);
        x.resume(co, 0);
        dropped(x, co, CoroutineFrames.WAITING);
        x.start(co, 0, 5);
        x.resume(co, 0);
        x.resume(co, 0);
        due.stands("done", x, co, CoroutineFrames.DONE, 5, 0, 2);
        dropped(x, co, CoroutineFrames.DONE);
        x.start(co, 0, 5);
        x.resume(co, 0);
        x.resume(co, 1);
        due.stands("failed", x, co, CoroutineFrames.FAILED, 0, 0, 80);
        dropped(x, co, CoroutineFrames.FAILED);
    }

    private static void dropped(CoroutineFrames x, int co, int old) {
        int other = (co + 1) % 4;
        x.start(other, 0, 2);
        due.same("drop", x.drop(co), old);
        due.stands("dropped", x, co, CoroutineFrames.NONE, 0, 0, 0);
        due.stands("another stays", x, other, CoroutineFrames.READY, 0, 1, 0);
        due.same("drop again", x.drop(co), CoroutineFrames.NONE);
        due.same("resume", x.resume(co, 0), CoroutineFrames.NOT_READY);
        due.same("echo", x.echo(co, 0), CoroutineFrames.NOT_READY);
    }

    private static void badNumbers() {
        CoroutineFrames x = new CoroutineFrames();
        for (int co = 0; co < 4; co++) {
            x.start(co, 0, 0);
        }
        for (int co : Code.BAD_COROUTINES) {
            due.same("drop(" + co + ")", x.drop(co), CoroutineFrames.BAD_NUMBER);
        }
        for (int co = 0; co < 4; co++) {
            due.stands("nothing changed", x, co, CoroutineFrames.READY, 0, 1, 0);
        }
    }
}
