/** The example of README.md, with the answers that its comments tell. */
public final class UsageTest {
    public static void main(String[] args) {
        Due due = new Due();
        CoroutineFrames x = new CoroutineFrames();
        due.same("YIELD", x.emit(0, 5, 0 | 1 << 2, 0), 0);
        due.same("ADD", x.emit(0, 1, 0 | 1 << 2, 0), 1);
        due.same("RETURN", x.emit(0, 7, 0, 0), 2);
        due.same("start(2, 0, 30)", x.start(2, 0, 30), 0);
        due.same("resume(2, 0)", x.resume(2, 0), CoroutineFrames.WAITING);
        due.same("value(2)", x.value(2), 30);
        due.same("resume(2, 12)", x.resume(2, 12), CoroutineFrames.DONE);
        due.same("value(2)", x.value(2), 42);
        due.end();
    }
}
