/** Promise 4: resume, and with it the instructions of the document's terms. */
public final class ResumeTest {
    private static final Due due = new Due();

    public static void main(String[] args) {
        refusals();
        yieldAndItsValue();
        arithmeticWraps();
        jumps();
        ends();
        calls();
        calledFunctionIsModuloThree();
        chainOfFour();
        stepLimit();
        stepLimitAtTheEnd();
        due.end();
    }

    private static void refusals() {
        CoroutineFrames x = new CoroutineFrames();
        new Code(x).yield(0, 1).ret(1);
        for (int co : Code.BAD_COROUTINES) {
            due.same("resume(" + co + ")", x.resume(co, 0), CoroutineFrames.BAD_NUMBER);
        }
        due.same("resume of NONE", x.resume(0, 0), CoroutineFrames.NOT_READY);
        x.start(0, 0, 3);
        x.resume(0, 0);
        due.same("done", x.resume(0, 4), CoroutineFrames.DONE);
        due.same("resume of DONE", x.resume(0, 9), CoroutineFrames.NOT_READY);
        due.stands("nothing changed", x, 0, CoroutineFrames.DONE, 4, 0, 1);
        CoroutineFrames y = new CoroutineFrames();
        new Code(y).jump(0);
        y.start(0, 0, 3);
        due.same("fails", y.resume(0, 0), CoroutineFrames.FAILED);
        due.same("resume of FAILED", y.resume(0, 0), CoroutineFrames.NOT_READY);
        due.stands("nothing changed", y, 0, CoroutineFrames.FAILED, 0, 0, 80);
    }

    private static void yieldAndItsValue() {
        for (int b = 0; b < 4; b++) {
            CoroutineFrames x = new CoroutineFrames();
            new Code(x).yield(0, b).yield(b, b).ret(b);
            x.start(0, 0, 3);
            due.same("a ready one", x.resume(0, 99), CoroutineFrames.WAITING);
            due.stands("it doesn't look at the value", x, 0, CoroutineFrames.WAITING, 3, 1, 1);
            x.resume(0, -8);
            due.stands("R[b] became the value", x, 0, CoroutineFrames.WAITING, -8, 1, 1);
            x.resume(0, Integer.MIN_VALUE);
            due.stands("returned", x, 0, CoroutineFrames.DONE, Integer.MIN_VALUE, 0, 1);
        }
    }

    private static void arithmeticWraps() {
        CoroutineFrames x = new CoroutineFrames();
        new Code(x).set(1, 1).add(0, 1).yield(0, 2).sub(0, 1).yield(0, 2).add(0, 0).yield(0, 2).sub(0, 0);
        x.start(0, 0, Integer.MAX_VALUE);
        x.resume(0, 0);
        due.same("MAX + 1", x.value(0), Integer.MIN_VALUE);
        x.resume(0, 0);
        due.same("MIN - 1", x.value(0), Integer.MAX_VALUE);
        x.resume(0, 0);
        due.same("MAX + MAX", x.value(0), -2);
    }

    private static void jumps() {
        for (int argument : new int[] {1, 0, -1, Integer.MAX_VALUE, Integer.MIN_VALUE}) {
            CoroutineFrames x = new CoroutineFrames();
            new Code(x).jpos(0, 3).set(1, 10).ret(1).set(1, 20).jump(2);
            x.start(0, 0, argument);
            x.resume(0, 0);
            due.stands("JPOS with " + argument, x, 0, CoroutineFrames.DONE, argument > 0 ? 20 : 10, 0,
                    argument > 0 ? 4 : 3);
        }
    }

    private static void ends() {
        for (int c : new int[] {-1, 2, 3, 8, 9, Integer.MIN_VALUE, Integer.MAX_VALUE}) {
            CoroutineFrames x = new CoroutineFrames();
            new Code(x).in(0).jump(c).ret(0).in(1).jpos(0, c).ret(0).in(2).set(0, 4).set(1, 4).set(2, 4);
            x.start(0, 0, 6);
            due.same("JUMP " + c, x.resume(0, 0), CoroutineFrames.DONE);
            due.stands("JUMP out", x, 0, CoroutineFrames.DONE, 0, 0, 1);
            x.start(1, 1, 6);
            x.resume(1, 0);
            due.stands("JPOS out", x, 1, CoroutineFrames.DONE, 0, 0, 1);
            x.start(2, 1, -6);
            x.resume(2, 0);
            due.stands("JPOS not taken", x, 2, CoroutineFrames.DONE, -6, 0, 2);
            x.start(3, 2, 6);
            x.resume(3, 0);
            due.stands("past the last one", x, 3, CoroutineFrames.DONE, 0, 0, 3);
        }
        CoroutineFrames x = new CoroutineFrames();
        new Code(x).yield(0, 0);
        x.start(0, 0, 6);
        x.resume(0, 0);
        due.stands("waits at its last instruction", x, 0, CoroutineFrames.WAITING, 6, 1, 1);
        due.same("then it ends", x.resume(0, 9), CoroutineFrames.DONE);
        due.stands("nothing carried out", x, 0, CoroutineFrames.DONE, 0, 0, 0);
    }

    private static void calls() {
        for (int a = 0; a < 4; a++) {
            CoroutineFrames x = new CoroutineFrames();
            new Code(x)
                    .in(0).set(1, 10).set(2, 20).set(3, 30).set(a, 5).call(a, 1).yield(a, a).call(a, 2).ret(a)
                    .in(1).add(0, 1).add(0, 2).add(0, 3).yield(0, 3).add(0, 3).ret(0);
            x.start(0, 0, 1);
            x.resume(0, 0);
            due.stands("only R[0] is handed over", x, 0, CoroutineFrames.WAITING, 5, 2, 9);
            x.resume(0, 100);
            due.stands("R[a] becomes what it returns", x, 0, CoroutineFrames.WAITING, 105, 1, 3);
            x.resume(0, 7);
            due.stands("an empty function returns 0", x, 0, CoroutineFrames.DONE, 0, 0, 2);
        }
        CoroutineFrames x = new CoroutineFrames();
        new Code(x).in(0).set(1, 10).set(2, 20).call(3, 1).add(1, 2).add(1, 3).ret(1)
                .in(1).set(1, -1).set(2, -1).set(0, 3).ret(0);
        x.start(0, 0, 1);
        x.resume(0, 0);
        due.stands("a caller's registers are its own", x, 0, CoroutineFrames.DONE, 33, 0, 10);
    }

    private static void calledFunctionIsModuloThree() {
        int[] cs = {0, 1, 2, 3, 4, 5, -1, -2, -3, -4, Integer.MAX_VALUE, Integer.MIN_VALUE};
        int[] called = {0, 1, 2, 0, 1, 2, 2, 1, 0, 2, 1, 1};
        for (int i = 0; i < cs.length; i++) {
            CoroutineFrames x = new CoroutineFrames();
            new Code(x).in(0).jpos(0, 3).set(0, 50).ret(0).set(0, -1).call(0, cs[i]).ret(0)
                    .in(1).set(0, 51).ret(0).in(2).set(0, 52).ret(0);
            x.start(0, 0, 1);
            x.resume(0, 0);
            due.same("CALL " + cs[i], x.value(0), 50 + called[i]);
        }
    }

    private static void chainOfFour() {
        CoroutineFrames x = new CoroutineFrames();
        new Code(x).in(0).set(1, 1).sub(0, 1).jpos(0, 5).yield(0, 2).ret(2).call(0, 0).add(0, 1).ret(0)
                .in(1).call(0, 0).call(0, 0).call(0, 0);
        x.start(0, 0, 4);
        due.same("four frames", x.resume(0, 0), CoroutineFrames.WAITING);
        due.stands("four frames", x, 0, CoroutineFrames.WAITING, 0, 4, 16);
        x.resume(0, 40);
        due.stands("all of them return", x, 0, CoroutineFrames.DONE, 43, 0, 7);
        x.start(1, 0, 5);
        due.same("a fifth frame", x.resume(1, 0), CoroutineFrames.FAILED);
        due.stands("the failing CALL counts", x, 1, CoroutineFrames.FAILED, 0, 0, 16);
        x.start(2, 1, 3);
        due.same("frames that are gone make room", x.resume(2, 0), CoroutineFrames.WAITING);
        due.stands("four frames", x, 2, CoroutineFrames.WAITING, 0, 4, 13);
        x.resume(2, 0);
        due.stands("a second CALL goes on", x, 2, CoroutineFrames.WAITING, 0, 3, 14);
    }

    private static void stepLimit() {
        CoroutineFrames x = new CoroutineFrames();
        // 3 instructions a turn, R[0] turns: 2 + 3 * turns - 1 before the YIELD or RETURN.
        new Code(x).in(0).set(1, 1).jump(2).sub(0, 1).jpos(0, 1).yield(0, 0).jump(1)
                .in(1).set(1, 1).jump(2).sub(0, 1).jpos(0, 1).ret(1)
                .in(2).set(1, 1).set(2, 1).jump(3).sub(0, 1).jpos(0, 2).yield(0, 0).jump(2);
        x.start(0, 0, 26);
        due.same("80th waits", x.resume(0, 0), CoroutineFrames.WAITING);
        due.stands("80th waits", x, 0, CoroutineFrames.WAITING, 0, 1, 80);
        due.same("the count begins anew", x.resume(0, 26), CoroutineFrames.WAITING);
        due.stands("the count begins anew", x, 0, CoroutineFrames.WAITING, 0, 1, 80);
        due.same("an 81st would be needed", x.resume(0, 27), CoroutineFrames.FAILED);
        due.stands("an 81st would be needed", x, 0, CoroutineFrames.FAILED, 0, 0, 80);
        x.start(1, 1, 26);
        due.same("80th is done", x.resume(1, 0), CoroutineFrames.DONE);
        due.stands("80th is done", x, 1, CoroutineFrames.DONE, 1, 0, 80);
        x.start(2, 2, 26);
        due.same("81st would wait", x.resume(2, 0), CoroutineFrames.FAILED);
        due.stands("81st would wait", x, 2, CoroutineFrames.FAILED, 0, 0, 80);
    }

    /** Returning at the end of the instructions is not one of the 80. */
    private static void stepLimitAtTheEnd() {
        CoroutineFrames x = new CoroutineFrames();
        new Code(x).in(0).set(1, 1).jump(2).sub(0, 1).jpos(0, 1).set(2, 5)
                .in(1).set(2, 26).call(2, 0)
                .in(2).set(1, 1).jump(2).sub(0, 1).jpos(0, 1).call(0, 5);
        x.start(0, 0, 26);
        due.same("ends after its 80th", x.resume(0, 0), CoroutineFrames.DONE);
        due.stands("ends after its 80th", x, 0, CoroutineFrames.DONE, 0, 0, 80);
        x.start(1, 1, 0);
        due.same("two more than 80", x.resume(1, 0), CoroutineFrames.FAILED);
        due.stands("two more than 80", x, 1, CoroutineFrames.FAILED, 0, 0, 80);
        CoroutineFrames y = new CoroutineFrames();
        new Code(y).in(0).set(1, 1).jump(2).sub(0, 1).jpos(0, 1).call(0, 2);
        y.start(0, 0, 26);
        due.same("80th calls an empty function", y.resume(0, 0), CoroutineFrames.DONE);
        due.stands("80th calls an empty function", y, 0, CoroutineFrames.DONE, 0, 0, 80);
    }
}
