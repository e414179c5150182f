/**
 * Each of the eight instructions, with every a and b: its line of the document stands above its test.
 *
 * The instruction stands at place 3 of function 0. The three YIELDs before it fill R[1] to R[3]; the four
 * after it tell R[0] to R[3], each resumed with what it told, so that no register changes by the telling.
 */
public final class InstructionsTest {
    private static final int MIN = Integer.MIN_VALUE;
    private static final int MAX = Integer.MAX_VALUE;
    private static final int[][] HELD = {
        {5, -7, 300, 4000}, {MAX, 1, 0, -1}, {MIN, MAX, -1, 1}, {0, 0, 0, 0}, {-1, MIN, MIN, MAX}
    };
    private static final int[] NUMBERS = {0, 1, -1, 77, MAX, MIN};

    private static final Due due = new Due();

    public static void main(String[] args) {
        for (int[] held : HELD) {
            for (int a = 0; a < 4; a++) {
                for (int b = 0; b < 4; b++) {
                    set(held, a, b);
                    add(held, a, b);
                    sub(held, a, b);
                    yields(held, a, b);
                }
                jump(held, a);
                jpos(held, a);
                call(held, a);
                returns(held, a);
            }
        }
        due.end();
    }

    /** An object whose coroutine 1 has the registers, and has the instruction before it. */
    private static CoroutineFrames before(int op, int a, int b, int c, int[] held) {
        CoroutineFrames x = new CoroutineFrames();
        Code code = new Code(x).in(0).yield(0, 1).yield(0, 2).yield(0, 3);
        due.same("emit of op " + op, x.emit(0, op, a | b << 2, c), 3);
        code.yield(0, 0).yield(1, 1).yield(2, 2).yield(3, 3);
        calledFunctions(code);
        x.start(1, 0, held[0]);
        x.resume(1, 1234);
        x.resume(1, held[1]);
        x.resume(1, held[2]);
        due.stands("the instruction comes next but for R[3]", x, 1, CoroutineFrames.WAITING, held[0], 1, 1);
        return x;
    }

    /** Functions 1 and 2 tell their registers and return R[1]; only 2 first adds 1 to R[0]. */
    private static void calledFunctions(Code code) {
        code.in(1).yield(0, 0).yield(1, 1).yield(2, 2).yield(3, 1).ret(1);
        code.in(2).set(1, 1).add(0, 1).sub(1, 1).yield(0, 0).yield(1, 1).yield(2, 2).yield(3, 1).ret(1);
    }

    /** Of a coroutine that waits at the first of the four telling YIELDs. */
    private static void tells(String when, CoroutineFrames x, int[] registers, int depth, int steps) {
        for (int r = 0; r < 4; r++) {
            due.stands(when + ", R[" + r + "]", x, 1, CoroutineFrames.WAITING, registers[r], depth, r == 0 ? steps : 1);
            if (r < 3) {
                due.same(when + ": goes on", x.resume(1, registers[r]), CoroutineFrames.WAITING);
            }
        }
    }

    private static int[] with(int[] held, int register, int value) {
        int[] registers = held.clone();
        registers[register] = value;
        return registers;
    }

    /** "0 SET a c: R[a] = c" */
    private static void set(int[] held, int a, int b) {
        for (int c : NUMBERS) {
            CoroutineFrames x = before(0, a, b, c, held);
            x.resume(1, held[3]);
            tells("SET " + a + " " + c, x, with(held, a, c), 1, 2);
        }
    }

    /** "1 ADD a b: R[a] = R[a] + R[b]" */
    private static void add(int[] held, int a, int b) {
        CoroutineFrames x = before(1, a, b, 9, held);
        x.resume(1, held[3]);
        tells("ADD " + a + " " + b, x, with(held, a, held[a] + held[b]), 1, 2);
    }

    /** "2 SUB a b: R[a] = R[a] - R[b]" */
    private static void sub(int[] held, int a, int b) {
        CoroutineFrames x = before(2, a, b, 9, held);
        x.resume(1, held[3]);
        tells("SUB " + a + " " + b, x, with(held, a, held[a] - held[b]), 1, 2);
    }

    /** "3 JUMP c: goes to instruction c" */
    private static void jump(int[] held, int a) {
        for (int c = -2; c < 10; c++) {
            CoroutineFrames x = before(3, a, 0, c, held);
            x.resume(1, held[3]);
            wentTo("JUMP " + c, x, held, c);
        }
    }

    /** "4 JPOS a c: goes to c if R[a] > 0" */
    private static void jpos(int[] held, int a) {
        for (int c = -2; c < 10; c++) {
            CoroutineFrames x = before(4, a, 0, c, held);
            x.resume(1, held[3]);
            wentTo("JPOS " + a + " " + c, x, held, held[a] > 0 ? c : 4);
        }
    }

    private static void wentTo(String when, CoroutineFrames x, int[] held, int c) {
        if (c == 3) {
            due.stands(when + ", to itself", x, 1, CoroutineFrames.FAILED, 0, 0, 80);
        } else if (c < 0 || c > 7) {
            due.stands(when + ", to no instruction", x, 1, CoroutineFrames.DONE, 0, 0, 1);
        } else if (c == 4) {
            tells(when, x, held, 1, 2);
        } else {
            due.stands(when, x, 1, CoroutineFrames.WAITING, c < 3 ? held[0] : held[c - 4], 1, 2);
        }
    }

    /** "5 YIELD a b: the coroutine waits and gives R[a]; when it is resumed with a value, R[b] becomes that value" */
    private static void yields(int[] held, int a, int b) {
        for (int value : NUMBERS) {
            CoroutineFrames x = before(5, a, b, 9, held);
            due.same("YIELD", x.resume(1, held[3]), CoroutineFrames.WAITING);
            due.stands("YIELD " + a + " " + b, x, 1, CoroutineFrames.WAITING, held[a], 1, 1);
            x.resume(1, value);
            tells("YIELD " + a + " " + b + " resumed with " + value, x, with(held, b, value), 1, 1);
        }
    }

    /**
     * "6 CALL a f: a new last frame carries out function f (c modulo 3, 0 to 2 also for negative c) from its
     * instruction 0, its R[0] being this frame's R[a], its other registers 0; when it returns, this frame's R[a]
     * becomes what it returns. If four frames stand, the coroutine FAILS instead"
     */
    private static void call(int[] held, int a) {
        for (int c : new int[] {1, 2, 4, 5, -1, -2, -4, -5}) {
            int function = (c + 6) % 3;
            CoroutineFrames x = before(6, a, 0, c, held);
            due.same("CALL", x.resume(1, held[3]), CoroutineFrames.WAITING);
            int handed = function == 2 ? held[a] + 1 : held[a];
            tells("in function " + function, x, new int[] {handed, 0, 0, 0}, 2, function == 2 ? 5 : 2);
            x.resume(1, 4321);
            tells("returned from function " + function, x, with(held, a, 4321), 1, 2);
        }
        for (int c : new int[] {0, 3, -3}) {
            callsItself(before(6, a, 0, c, held), held, a);
        }
    }

    /** Each frame waits three times before its own CALL. */
    private static void callsItself(CoroutineFrames x, int[] held, int a) {
        int argument = held[a];
        for (int depth = 2; depth <= 4; depth++) {
            x.resume(1, depth == 2 ? held[3] : 50 + depth);
            due.stands("calls itself", x, 1, CoroutineFrames.WAITING, argument, depth, 2);
            x.resume(1, 31 + depth);
            x.resume(1, 41 + depth);
            due.stands("in the new last frame", x, 1, CoroutineFrames.WAITING, argument, depth, 1);
            argument = new int[] {argument, 31 + depth, 41 + depth, 51 + depth}[a];
        }
        due.same("four frames stand", x.resume(1, 60), CoroutineFrames.FAILED);
        due.stands("four frames stand", x, 1, CoroutineFrames.FAILED, 0, 0, 1);
    }

    /** "7 RETURN a: the frame returns R[a] and is gone; if it was the only one, the coroutine is DONE with that value" */
    private static void returns(int[] held, int a) {
        CoroutineFrames x = before(7, a, 0, 9, held);
        due.same("RETURN " + a, x.resume(1, held[3]), CoroutineFrames.DONE);
        due.stands("RETURN " + a, x, 1, CoroutineFrames.DONE, held[a], 0, 1);
        CoroutineFrames y = new CoroutineFrames();
        new Code(y).in(0).set(0, held[0]).set(1, held[1]).set(2, held[2]).set(3, held[3]).ret(a)
                .in(1).set(2, 66).call(1, 0).yield(1, 1).ret(2);
        y.start(1, 1, 0);
        due.same("RETURN " + a + " of a called frame", y.resume(1, 0), CoroutineFrames.WAITING);
        due.stands("RETURN " + a + " of a called frame", y, 1, CoroutineFrames.WAITING, held[a], 1, 8);
        y.resume(1, 0);
        due.stands("the caller is the only one then", y, 1, CoroutineFrames.DONE, 66, 0, 1);
    }
}
