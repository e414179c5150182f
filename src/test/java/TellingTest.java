/** Promises 8 to 12: state, value, depth, alike, steps, none of which changes anything. */
public final class TellingTest {
    private static final Due due = new Due();

    public static void main(String[] args) {
        badNumbers();
        depths();
        alike();
        steps();
        nothingChanges();
        due.end();
    }

    private static void badNumbers() {
        CoroutineFrames x = new CoroutineFrames();
        for (int co : Code.BAD_COROUTINES) {
            due.same("state(" + co + ")", x.state(co), CoroutineFrames.BAD_NUMBER);
            due.same("value(" + co + ")", x.value(co), CoroutineFrames.BAD_NUMBER);
            due.same("depth(" + co + ")", x.depth(co), CoroutineFrames.BAD_NUMBER);
            due.same("steps(" + co + ")", x.steps(co), CoroutineFrames.BAD_NUMBER);
            due.no("alike(" + co + ", 0)", x.alike(co, 0));
            due.no("alike(0, " + co + ")", x.alike(0, co));
            due.no("alike(" + co + ", " + co + ")", x.alike(co, co));
        }
    }

    private static void depths() {
        CoroutineFrames x = new CoroutineFrames();
        new Code(x).in(0).yield(0, 1).call(0, 0);
        x.start(0, 0, 6);
        for (int depth = 1; depth <= 4; depth++) {
            due.same("resume", x.resume(0, 0), CoroutineFrames.WAITING);
            due.stands("deeper", x, 0, CoroutineFrames.WAITING, 6, depth, depth == 1 ? 1 : 2);
        }
        due.same("too deep", x.resume(0, 0), CoroutineFrames.FAILED);
        due.stands("too deep", x, 0, CoroutineFrames.FAILED, 0, 0, 1);
    }

    private static void alike() {
        CoroutineFrames x = new CoroutineFrames();
        new Code(x).in(0).yield(0, 1).ret(1).in(1).set(3, 9).call(0, 0).ret(0).in(2).jump(0);
        for (int a = 0; a < 4; a++) {
            for (int b = 0; b < 4; b++) {
                due.yes("all NONE", x.alike(a, b));
            }
        }
        x.start(0, 0, 5);
        due.no("READY and NONE, both of value 0", x.alike(0, 1));
        x.start(1, 1, 6);
        due.yes("both READY", x.alike(0, 1));
        x.resume(0, 0);
        x.resume(1, 0);
        due.no("WAITING with 5 and 6", x.alike(0, 1));
        x.start(1, 1, 5);
        due.no("WAITING and READY", x.alike(0, 1));
        x.resume(1, 0);
        due.yes("WAITING with 5 at other depths", x.alike(0, 1));
        due.yes("the other way round", x.alike(1, 0));
        x.resume(0, 5);
        due.no("DONE and WAITING with 5", x.alike(0, 1));
        x.resume(1, 5);
        due.yes("DONE with 5 after other steps", x.alike(0, 1));
        x.start(2, 2, 0);
        x.resume(2, 0);
        due.no("FAILED and NONE", x.alike(2, 3));
        x.copy(2, 3);
        due.yes("both FAILED", x.alike(2, 3));
    }

    private static void steps() {
        CoroutineFrames x = new CoroutineFrames();
        new Code(x).in(0).set(1, 1).set(2, 2).yield(0, 3).yield(0, 3).add(0, 1).yield(0, 3);
        x.start(0, 0, 5);
        due.same("before any resume", x.steps(0), 0);
        x.resume(0, 0);
        due.same("first", x.steps(0), 3);
        x.copy(0, 1);
        due.same("of a copy", x.steps(1), 3);
        x.resume(0, 0);
        due.same("second", x.steps(0), 1);
        due.same("of the copy still", x.steps(1), 3);
        x.resume(7, 0);
        due.same("echo of 0 times", x.echo(0, 0), 0);
        due.same("echo of 0 times resumes nothing", x.steps(0), 1);
        due.same("echo", x.echo(1, 2), 5 + 6);
        due.same("the last one of an echo", x.steps(1), 2);
        x.resume(0, 0);
        x.resume(0, 0);
        due.same("the end alone", x.steps(0), 0);
        x.resume(1, 0);
        x.resume(1, 0);
        due.same("a refused resume", x.steps(1), 0);
        x.start(2, 0, 5);
        x.resume(2, 0);
        x.start(2, 0, 5);
        due.same("after another start", x.steps(2), 0);
        x.resume(2, 0);
        x.drop(2);
        due.same("after drop", x.steps(2), 0);
        x.start(3, 0, 5);
        x.resume(3, 0);
        x.copy(2, 3);
        due.same("a copy of NONE", x.steps(3), 0);
    }

    private static void nothingChanges() {
        CoroutineFrames x = new CoroutineFrames();
        new Code(x).in(0).yield(0, 1).call(1, 1).ret(1).in(1).yield(0, 1).ret(1);
        x.start(0, 0, 5);
        x.resume(0, 0);
        x.resume(0, 6);
        for (int i = 0; i < 20; i++) {
            due.stands("asked again", x, 0, CoroutineFrames.WAITING, 6, 2, 2);
            due.yes("asked again", x.alike(0, 0));
        }
        due.same("goes on as before", x.resume(0, 7), CoroutineFrames.DONE);
        due.stands("goes on as before", x, 0, CoroutineFrames.DONE, 7, 0, 2);
    }
}
