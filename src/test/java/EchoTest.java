/** Promise 5: echo. */
public final class EchoTest {
    private static final Due due = new Due();

    public static void main(String[] args) {
        howOften();
        refusals();
        endsEarly();
        sumWraps();
        due.end();
    }

    /** Gives 1, then one more than it is resumed with each time. */
    private static CoroutineFrames counter() {
        CoroutineFrames x = new CoroutineFrames();
        new Code(x).set(1, 1).set(0, 1).yield(0, 0).add(0, 1).jump(2);
        x.start(0, 0, 0);
        return x;
    }

    private static void howOften() {
        int[] ns = {0, -1, Integer.MIN_VALUE, 1, 2, 19, 20, 21, 1000, Integer.MAX_VALUE};
        int[] times = {0, 0, 0, 1, 2, 19, 20, 20, 20, 20};
        for (int i = 0; i < ns.length; i++) {
            CoroutineFrames x = counter();
            x.resume(0, 0);
            int sum = 0;
            for (int turn = 1; turn <= times[i]; turn++) {
                sum += 1 + turn;
            }
            due.same("echo(0, " + ns[i] + ")", x.echo(0, ns[i]), sum);
            due.stands("after echo(0, " + ns[i] + ")", x, 0, CoroutineFrames.WAITING, 1 + times[i], 1, 3);
        }
    }

    private static void refusals() {
        CoroutineFrames x = counter();
        for (int co : Code.BAD_COROUTINES) {
            due.same("echo(" + co + ")", x.echo(co, 1), CoroutineFrames.BAD_NUMBER);
        }
        due.same("echo of NONE", x.echo(1, 1), CoroutineFrames.NOT_READY);
        due.same("echo of READY", x.echo(0, 1), CoroutineFrames.NOT_READY);
        due.same("echo of READY, 0 times", x.echo(0, 0), CoroutineFrames.NOT_READY);
        due.stands("nothing changed", x, 0, CoroutineFrames.READY, 0, 1, 0);
    }

    private static void endsEarly() {
        CoroutineFrames x = new CoroutineFrames();
        new Code(x).in(0).yield(0, 1).add(0, 1).yield(0, 2).add(0, 2).ret(0)
                .in(1).yield(0, 1).yield(1, 2).jump(2);
        x.start(0, 0, 3);
        x.resume(0, 0);
        due.same("the value returned counts", x.echo(0, 9), 6 + 12);
        due.stands("done", x, 0, CoroutineFrames.DONE, 12, 0, 2);
        due.same("echo of DONE", x.echo(0, 1), CoroutineFrames.NOT_READY);
        x.start(1, 1, 3);
        x.resume(1, 0);
        due.same("a failed one has value 0", x.echo(1, 9), 3);
        due.stands("failed", x, 1, CoroutineFrames.FAILED, 0, 0, 80);
        due.same("echo of FAILED", x.echo(1, 1), CoroutineFrames.NOT_READY);
    }

    private static void sumWraps() {
        CoroutineFrames x = new CoroutineFrames();
        new Code(x).yield(0, 0).jump(0);
        x.start(0, 0, Integer.MAX_VALUE);
        x.resume(0, 0);
        due.same("3 * MAX", x.echo(0, 3), 3 * Integer.MAX_VALUE);
    }
}
