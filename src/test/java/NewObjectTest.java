/** Promise 1: a new object has no instructions, and all its coroutines are NONE. */
public final class NewObjectTest {
    public static void main(String[] args) {
        Due due = new Due();
        CoroutineFrames x = new CoroutineFrames();
        for (int co = 0; co < 4; co++) {
            due.stands("new", x, co, CoroutineFrames.NONE, 0, 0, 0);
            due.same("resume of NONE", x.resume(co, 1), CoroutineFrames.NOT_READY);
            due.same("echo of NONE", x.echo(co, 1), CoroutineFrames.NOT_READY);
            due.same("drop of NONE", x.drop(co), CoroutineFrames.NONE);
        }
        for (int function = 0; function < 3; function++) {
            CoroutineFrames y = new CoroutineFrames();
            y.start(0, function, 9);
            due.same("resume without instructions", y.resume(0, 1), CoroutineFrames.DONE);
            due.stands("without instructions", y, 0, CoroutineFrames.DONE, 0, 0, 0);
            due.same("first emit", x.emit(function, 7, 0, 0), 0);
        }
        objectsAreApart(due);
        due.end();
    }

    private static void objectsAreApart(Due due) {
        CoroutineFrames x = new CoroutineFrames();
        CoroutineFrames y = new CoroutineFrames();
        x.emit(0, 7, 0, 0);
        x.start(0, 0, 1);
        due.same("emit on the other object", y.emit(0, 7, 0, 0), 0);
        due.same("state on the other object", y.state(0), CoroutineFrames.NONE);
    }
}
