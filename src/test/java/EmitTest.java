/** Promises 2 and 13: emit, its refusals and their order. */
public final class EmitTest {
    private static final Due due = new Due();

    public static void main(String[] args) {
        numbersAndFull();
        badNumbers();
        locked();
        order();
        registersAreTheLowestBits();
        due.end();
    }

    private static void numbersAndFull() {
        CoroutineFrames x = new CoroutineFrames();
        for (int place = 0; place < 8; place++) {
            for (int function = 0; function < 3; function++) {
                due.same("emit number", x.emit(function, place, 0, 0), place);
            }
        }
        for (int function = 0; function < 3; function++) {
            due.same("ninth emit", x.emit(function, 0, 0, 0), CoroutineFrames.FULL);
            due.same("tenth emit", x.emit(function, 7, 0, 0), CoroutineFrames.FULL);
        }
        CoroutineFrames y = new CoroutineFrames();
        Code code = new Code(y);
        for (int i = 0; i < 7; i++) {
            code.set(0, i);
        }
        code.ret(0);
        due.same("ninth", y.emit(0, 0, 0, 99), CoroutineFrames.FULL);
        due.same("another function has room", y.emit(1, 0, 0, 0), 0);
        y.start(0, 0, 5);
        due.same("all eight carried out", y.resume(0, 0), CoroutineFrames.DONE);
        due.stands("all eight", y, 0, CoroutineFrames.DONE, 6, 0, 8);
    }

    private static void badNumbers() {
        CoroutineFrames x = new CoroutineFrames();
        for (int function : Code.BAD_FUNCTIONS) {
            due.same("emit function " + function, x.emit(function, 0, 0, 0), CoroutineFrames.BAD_NUMBER);
        }
        for (int op : new int[] {-1, 8, Integer.MIN_VALUE, Integer.MAX_VALUE}) {
            due.same("emit op " + op, x.emit(0, op, 0, 0), CoroutineFrames.BAD_NUMBER);
        }
        for (int function = 0; function < 3; function++) {
            due.same("a refused emit changes nothing", x.emit(function, 0, 0, 0), 0);
        }
    }

    private static void locked() {
        for (int co = 0; co < 4; co++) {
            CoroutineFrames x = new CoroutineFrames();
            new Code(x).yield(0, 1).jpos(1, 3).ret(1).jump(3);
            x.start(co, 0, 5);
            due.same("emit, one READY", x.emit(0, 0, 0, 0), CoroutineFrames.LOCKED);
            x.resume(co, 0);
            due.same("emit, one WAITING", x.emit(1, 0, 0, 0), CoroutineFrames.LOCKED);
            due.same("done", x.resume(co, 0), CoroutineFrames.DONE);
            due.same("emit, one DONE", x.emit(2, 0, 0, 0), CoroutineFrames.LOCKED);
            x.start(co, 0, 5);
            x.resume(co, 0);
            due.same("failed", x.resume(co, 1), CoroutineFrames.FAILED);
            due.same("emit, one FAILED", x.emit(0, 0, 0, 0), CoroutineFrames.LOCKED);
            x.drop(co);
            due.same("emit after drop", x.emit(0, 7, 0, 0), 4);
            x.start(co, 0, 5);
            x.copy((co + 1) % 4, co);
            due.same("emit after a copy of NONE", x.emit(0, 7, 0, 0), 5);
            due.same("locked emits appended nothing", x.emit(1, 7, 0, 0), 0);
            due.same("locked emits appended nothing", x.emit(2, 7, 0, 0), 0);
        }
    }

    private static void order() {
        CoroutineFrames x = new CoroutineFrames();
        Code code = new Code(x);
        for (int i = 0; i < 8; i++) {
            code.ret(0);
        }
        due.same("full and bad op", x.emit(0, 8, 0, 0), CoroutineFrames.BAD_NUMBER);
        x.start(3, 1, 0);
        due.same("locked and full", x.emit(0, 7, 0, 0), CoroutineFrames.LOCKED);
        due.same("locked, full and bad op", x.emit(0, -1, 0, 0), CoroutineFrames.BAD_NUMBER);
        due.same("locked and bad function", x.emit(3, 0, 0, 0), CoroutineFrames.BAD_NUMBER);
        x.drop(3);
        due.same("full", x.emit(0, 7, 0, 0), CoroutineFrames.FULL);
    }

    private static void registersAreTheLowestBits() {
        for (int high : new int[] {0, 16, 0x7ffffff0, -16, Integer.MIN_VALUE}) {
            for (int a = 0; a < 4; a++) {
                for (int b = 0; b < 4; b++) {
                    CoroutineFrames x = new CoroutineFrames();
                    Code code = new Code(x);
                    code.set(0, 1).set(1, 20).set(2, 300).set(3, 4000);
                    x.emit(0, 2, high | a | b << 2, 77);
                    code.ret(a);
                    x.start(0, 0, 0);
                    x.resume(0, 0);
                    int[] set = {1, 20, 300, 4000};
                    due.same("SUB R" + a + " R" + b + " with " + high, x.value(0), set[a] - set[b]);
                }
            }
        }
    }
}
