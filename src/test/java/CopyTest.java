/** Promise 6: copy. */
public final class CopyTest {
    private static final Due due = new Due();

    public static void main(String[] args) {
        everyState();
        copiesAreIndependent();
        deepChainIsCopied();
        everyRegisterIsCopied();
        ontoItself();
        badNumbers();
        due.end();
    }

    private static CoroutineFrames program() {
        CoroutineFrames x = new CoroutineFrames();
        new Code(x)
                .in(0).set(1, 1).sub(0, 1).jpos(0, 5).yield(0, 2).ret(2).call(0, 0).add(0, 1).ret(0)
                .in(1).yield(0, 1).add(0, 1).yield(0, 1).add(0, 1).jump(2)
                .in(2).jump(0);
        return x;
    }

    private static void everyState() {
        CoroutineFrames x = program();
        x.start(3, 1, 8);
        x.resume(3, 0);
        due.same("copy of NONE", x.copy(0, 3), CoroutineFrames.NONE);
        due.stands("copy of NONE", x, 3, CoroutineFrames.NONE, 0, 0, 0);
        x.start(0, 1, 8);
        due.same("copy of READY", x.copy(0, 3), CoroutineFrames.READY);
        due.stands("copy of READY", x, 3, CoroutineFrames.READY, 0, 1, 0);
        x.resume(0, 0);
        due.same("copy of WAITING", x.copy(0, 3), CoroutineFrames.WAITING);
        due.stands("copy of WAITING", x, 3, CoroutineFrames.WAITING, 8, 1, 1);
        x.start(0, 0, 1);
        x.resume(0, 0);
        x.resume(0, 17);
        due.same("copy of DONE", x.copy(0, 3), CoroutineFrames.DONE);
        due.stands("copy of DONE", x, 3, CoroutineFrames.DONE, 17, 0, 1);
        x.start(0, 2, 8);
        x.resume(0, 0);
        due.same("copy of FAILED", x.copy(0, 3), CoroutineFrames.FAILED);
        due.stands("copy of FAILED", x, 3, CoroutineFrames.FAILED, 0, 0, 80);
    }

    private static void copiesAreIndependent() {
        for (int from = 0; from < 4; from++) {
            for (int to = 0; to < 4; to++) {
                if (from != to) {
                    CoroutineFrames x = program();
                    x.start(from, 1, 10);
                    x.resume(from, 0);
                    x.copy(from, to);
                    x.resume(from, 5);
                    due.stands("the copy stays", x, to, CoroutineFrames.WAITING, 10, 1, 1);
                    x.resume(to, 7);
                    due.stands("the copy goes on", x, to, CoroutineFrames.WAITING, 17, 1, 2);
                    due.stands("the first stays", x, from, CoroutineFrames.WAITING, 15, 1, 2);
                    x.drop(from);
                    x.resume(to, 1);
                    due.stands("the copy outlives it", x, to, CoroutineFrames.WAITING, 18, 1, 3);
                }
            }
        }
    }

    private static void deepChainIsCopied() {
        CoroutineFrames x = program();
        x.start(0, 0, 4);
        x.resume(0, 0);
        due.same("copy", x.copy(0, 2), CoroutineFrames.WAITING);
        due.stands("copied", x, 2, CoroutineFrames.WAITING, 0, 4, 16);
        x.start(0, 1, 99);
        x.resume(0, 0);
        x.resume(2, 40);
        due.stands("its four frames return", x, 2, CoroutineFrames.DONE, 43, 0, 7);
    }

    /** Each of four frames holds a number in R[b]; unwinding the copy adds them up. */
    private static void everyRegisterIsCopied() {
        for (int b = 0; b < 4; b++) {
            int a = (b + 1) % 4;
            CoroutineFrames x = new CoroutineFrames();
            new Code(x).yield(0, b).yield(0, a).jpos(a, 4).ret(b).call(a, 0).add(a, b).ret(a);
            goDeep(x, 0, 1);
            due.same("copy", x.copy(0, 1), CoroutineFrames.WAITING);
            goDeep(x, 0, 5);
            due.same("depth of the copy", x.depth(1), 4);
            due.same("resume of the copy", x.resume(1, 0), CoroutineFrames.DONE);
            due.same("R[" + b + "] of all the copy's frames", x.value(1), 1111);
            x.resume(0, 0);
            due.same("R[" + b + "] of all the first's frames", x.value(0), 5555);
        }
    }

    private static void goDeep(CoroutineFrames x, int co, int digit) {
        x.start(co, 0, 0);
        x.resume(co, 0);
        x.resume(co, digit);
        for (int held = digit * 10; held <= digit * 1000; held *= 10) {
            x.resume(co, 1);
            x.resume(co, held);
        }
    }

    private static void ontoItself() {
        CoroutineFrames x = program();
        x.start(1, 0, 3);
        x.resume(1, 0);
        due.same("copy onto itself", x.copy(1, 1), CoroutineFrames.WAITING);
        due.stands("copied onto itself", x, 1, CoroutineFrames.WAITING, 0, 3, 12);
        x.resume(1, 40);
        due.stands("goes on", x, 1, CoroutineFrames.DONE, 42, 0, 5);
    }

    private static void badNumbers() {
        CoroutineFrames x = program();
        x.start(0, 1, 8);
        x.resume(0, 0);
        for (int co : Code.BAD_COROUTINES) {
            due.same("copy(" + co + ", 0)", x.copy(co, 0), CoroutineFrames.BAD_NUMBER);
            due.same("copy(0, " + co + ")", x.copy(0, co), CoroutineFrames.BAD_NUMBER);
            due.same("copy(" + co + ", " + co + ")", x.copy(co, co), CoroutineFrames.BAD_NUMBER);
        }
        due.stands("nothing changed", x, 0, CoroutineFrames.WAITING, 8, 1, 1);
    }
}
