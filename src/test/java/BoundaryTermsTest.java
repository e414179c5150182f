/** The document's terms at their boundaries: a test for each sentence, which stands above it. */
public final class BoundaryTermsTest {
    private static final int MIN = Integer.MIN_VALUE;
    private static final int MAX = Integer.MAX_VALUE;

    private static final Due due = new Due();

    public static void main(String[] args) {
        registersWrap();
        frameHasItsOwnRegisters();
        registersAreTheLowestBits();
        functionIsModuloThree();
        jumpsOnlyIfAboveZero();
        fourFramesStand();
        theOnlyFrameReturns();
        notTheNumberOfAnInstruction();
        eightyInstructions();
        eightyInAChain();
        endAfterTheEightieth();
        failingCallCounts();
        returnAtTheEndDoesNotCount();
        valueInOtherStates();
        objectOfManyCalls();
        due.end();
    }

    /** "four registers (0 to 3, ints that wrap)" */
    private static void registersWrap() {
        int[][] sums = {{MAX, 1, MIN}, {MIN, -1, MAX}, {MAX, MAX, -2}, {MIN, MIN, 0}, {-1, 1, 0}, {MAX, MIN, -1}};
        for (int[] sum : sums) {
            for (int a = 0; a < 4; a++) {
                int b = (a + 1) % 4;
                CoroutineFrames x = new CoroutineFrames();
                new Code(x).in(0).set(a, sum[0]).set(b, sum[1]).add(a, b).ret(a)
                        .in(1).set(a, sum[2]).set(b, sum[1]).sub(a, b).ret(a);
                x.start(0, 0, 0);
                x.resume(0, 0);
                due.stands("ADD " + a + " " + b, x, 0, CoroutineFrames.DONE, sum[2], 0, 4);
                x.start(0, 1, 0);
                x.resume(0, 0);
                due.stands("SUB " + a + " " + b, x, 0, CoroutineFrames.DONE, sum[0], 0, 4);
            }
        }
        CoroutineFrames x = new CoroutineFrames();
        new Code(x).sub(1, 0).ret(1);
        x.start(0, 0, MIN);
        x.resume(0, 0);
        due.same("0 - MIN", x.value(0), MIN);
    }

    /** "each carrying out a function with four registers (0 to 3 ...) of its own" */
    private static void frameHasItsOwnRegisters() {
        for (int a = 0; a < 4; a++) {
            CoroutineFrames x = new CoroutineFrames();
            new Code(x).in(0).set(0, 10).set(1, 11).set(2, 12).set(3, 13).call(a, 1).yield(a, a).jump(4)
                    .in(1).yield(0, 3).add(0, 1).add(0, 2).add(0, 3).set(1, 99).set(2, 99).set(3, 99).ret(0);
            x.start(0, 0, 0);
            x.resume(0, 0);
            due.stands("its R[0] is this frame's R[a]", x, 0, CoroutineFrames.WAITING, 10 + a, 2, 6);
            x.resume(0, 100);
            due.stands("its other registers are 0", x, 0, CoroutineFrames.WAITING, 110 + a, 1, 8);
            x.resume(0, 5);
            due.stands("another frame after it", x, 0, CoroutineFrames.WAITING, 5, 2, 3);
            x.resume(0, 200);
            due.stands("that one's other registers are 0", x, 0, CoroutineFrames.WAITING, 205, 1, 8);
        }
        for (int a = 0; a < 4; a++) {
            for (int other = 0; other < 4; other++) {
                CoroutineFrames x = new CoroutineFrames();
                new Code(x).in(0).set(0, 10).set(1, 11).set(2, 12).set(3, 13).call(a, 1).ret(other)
                        .in(1).set(0, 99).set(1, 99).set(2, 99).set(3, 99).set(0, 50).ret(0);
                x.start(0, 0, 0);
                x.resume(0, 0);
                due.same("only R[a] becomes what it returns", x.value(0), a == other ? 50 : 10 + other);
            }
        }
    }

    /** "a, b (registers, named by their two lowest bits)"; "a in bits 0 and 1, b in bits 2 and 3" */
    private static void registersAreTheLowestBits() {
        for (int high : new int[] {0, 16, 32, 0x7ffffff0, -16, MIN}) {
            for (int a = 0; a < 4; a++) {
                for (int b = 0; b < 4; b++) {
                    int regs = high | a | b << 2;
                    oneInstructionWith(regs, a, b);
                    jposWith(regs, a);
                    yieldWith(regs, a, b);
                }
            }
        }
    }

    private static void oneInstructionWith(int regs, int a, int b) {
        int[] held = {1, 20, 300, 4000};
        for (int op : new int[] {0, 1, 2, 6, 7}) {
            for (int seen = 0; seen < 4; seen++) {
                CoroutineFrames x = new CoroutineFrames();
                Code code = new Code(x).set(0, 1).set(1, 20).set(2, 300).set(3, 4000);
                x.emit(0, op, regs, 7);
                code.ret(seen);
                code.in(1).add(0, 0).ret(0);
                x.start(0, 0, 0);
                x.resume(0, 0);
                due.same("op " + op + " with " + regs + ", then R[" + seen + "]", x.value(0),
                        afterwards(op, a, b, seen, held));
            }
        }
    }

    /** JPOS jumps onto itself if it looks at the one register that holds more than 0. */
    private static void jposWith(int regs, int a) {
        for (int above = 0; above < 4; above++) {
            CoroutineFrames x = new CoroutineFrames();
            Code code = new Code(x).set(above, 1);
            x.emit(0, 4, regs, 1);
            code.ret(above);
            x.start(0, 0, 0);
            due.same("JPOS with " + regs + ", R[" + above + "] above 0", x.resume(0, 0),
                    above == a ? CoroutineFrames.FAILED : CoroutineFrames.DONE);
        }
    }

    /** What R[seen] holds after one instruction with c = 7; a RETURN tells its own value. */
    private static int afterwards(int op, int a, int b, int seen, int[] held) {
        if (op == 7) {
            return held[a];
        }
        if (seen != a) {
            return held[seen];
        }
        if (op == 0) {
            return 7;
        }
        if (op == 6) {
            return held[a] * 2;
        }
        return op == 1 ? held[a] + held[b] : held[a] - held[b];
    }

    private static void yieldWith(int regs, int a, int b) {
        for (int seen = 0; seen < 4; seen++) {
            CoroutineFrames x = new CoroutineFrames();
            Code code = new Code(x).set(0, 1).set(1, 20).set(2, 300).set(3, 4000);
            x.emit(0, 5, regs, 7);
            code.ret(seen);
            x.start(0, 0, 0);
            x.resume(0, 0);
            int[] held = {1, 20, 300, 4000};
            due.same("YIELD with " + regs + " gives R[a]", x.value(0), held[a]);
            x.resume(0, -6);
            due.same("YIELD with " + regs + ", then R[" + seen + "]", x.value(0), seen == b ? -6 : held[seen]);
        }
    }

    /** "function f (c modulo 3, 0 to 2 also for negative c)" */
    private static void functionIsModuloThree() {
        for (int c = -12; c <= 12; c++) {
            calls(c, (c + 12) % 3);
        }
        calls(MAX, 1);
        calls(MAX - 1, 0);
        calls(MAX - 2, 2);
        calls(MIN, 1);
        calls(MIN + 1, 2);
        calls(MIN + 2, 0);
    }

    private static void calls(int c, int function) {
        CoroutineFrames x = new CoroutineFrames();
        new Code(x).in(0).set(0, 50).ret(0).in(1).set(0, 51).ret(0)
                .in(2).jpos(0, 3).set(0, 52).ret(0).call(1, c).ret(1);
        x.start(0, 2, 1);
        x.resume(0, 0);
        due.same("CALL " + c, x.value(0), 50 + function);
    }

    /** "JPOS a c: goes to c if R[a] > 0" */
    private static void jumpsOnlyIfAboveZero() {
        int[] numbers = {MIN, -1, 0, 1, MAX};
        for (int number : numbers) {
            CoroutineFrames x = new CoroutineFrames();
            new Code(x).jpos(0, 3).set(1, 10).ret(1).set(1, 20).ret(1);
            x.start(0, 0, number);
            x.resume(0, 0);
            due.stands("JPOS of " + number, x, 0, CoroutineFrames.DONE, number > 0 ? 20 : 10, 0, 3);
        }
    }

    /** "If four frames stand, the coroutine FAILS instead": three may call, the fourth may not. */
    private static void fourFramesStand() {
        for (int c = 0; c < 3; c++) {
            CoroutineFrames x = new CoroutineFrames();
            new Code(x).in(0).yield(0, 1).call(0, c).ret(0).in(1).yield(0, 1).call(0, c).ret(0)
                    .in(2).yield(0, 1).call(0, c).ret(0);
            x.start(0, c, 6);
            for (int depth = 1; depth <= 4; depth++) {
                due.same("depth " + depth, x.resume(0, 0), CoroutineFrames.WAITING);
                due.stands("depth " + depth, x, 0, CoroutineFrames.WAITING, 6, depth, depth == 1 ? 1 : 2);
            }
            due.same("a fifth frame", x.resume(0, 0), CoroutineFrames.FAILED);
            due.stands("a fifth frame", x, 0, CoroutineFrames.FAILED, 0, 0, 1);
            due.same("no frame is left to go on with", x.resume(0, 0), CoroutineFrames.NOT_READY);
        }
        aFrameThatIsGoneMakesRoom();
        anEmptyFunctionNeedsAFrameToo();
    }

    private static void aFrameThatIsGoneMakesRoom() {
        CoroutineFrames x = new CoroutineFrames();
        new Code(x).in(0).call(0, 1).ret(0).in(1).call(0, 2).ret(0)
                .in(2).set(1, 1).jpos(0, 6).set(0, 1).call(0, 2).set(0, 1).jump(3).yield(1, 2).ret(2);
        x.start(0, 0, 0);
        for (int i = 0; i < 10; i++) {
            due.same("call " + i + " of a fourth frame", x.resume(0, 5), CoroutineFrames.WAITING);
            due.stands("call " + i + " of a fourth frame", x, 0, CoroutineFrames.WAITING, 1, 4, i == 0 ? 9 : 7);
        }
    }

    private static void anEmptyFunctionNeedsAFrameToo() {
        CoroutineFrames x = new CoroutineFrames();
        new Code(x).in(0).jpos(0, 3).call(1, 2).ret(0).set(1, 1).sub(0, 1).call(0, 0).ret(0).in(1).set(0, 1).ret(0);
        x.start(0, 0, 2);
        due.same("an empty function as the fourth", x.resume(0, 0), CoroutineFrames.DONE);
        due.stands("an empty function as the fourth", x, 0, CoroutineFrames.DONE, 0, 0, 13);
        x.start(0, 0, 3);
        due.same("an empty function as the fifth", x.resume(0, 0), CoroutineFrames.FAILED);
        due.stands("an empty function as the fifth", x, 0, CoroutineFrames.FAILED, 0, 0, 14);
    }

    /** "the frame returns R[a] and is gone; if it was the only one, the coroutine is DONE with that value" */
    private static void theOnlyFrameReturns() {
        for (int value : new int[] {0, 1, -1, MAX, MIN}) {
            for (int a = 0; a < 4; a++) {
                CoroutineFrames x = new CoroutineFrames();
                new Code(x).in(0).set(a, value).ret(a).set(a, 77).ret(a)
                        .in(1).call(a, 0).yield(a, a).set(a, 66).ret(a);
                x.start(0, 0, 5);
                due.same("the only one returns", x.resume(0, 0), CoroutineFrames.DONE);
                due.stands("the only one returned", x, 0, CoroutineFrames.DONE, value, 0, 2);
                x.start(1, 1, 5);
                due.same("not the only one", x.resume(1, 0), CoroutineFrames.WAITING);
                due.stands("not the only one", x, 1, CoroutineFrames.WAITING, value, 1, 4);
                x.resume(1, 0);
                due.stands("then the only one", x, 1, CoroutineFrames.DONE, 66, 0, 2);
            }
        }
    }

    /** "if that is not the number of an instruction of its function, the frame returns 0" */
    private static void notTheNumberOfAnInstruction() {
        for (int length = 1; length <= 8; length++) {
            for (int c : new int[] {-1, -8, length, length + 1, 8, 9, 16, 24, MIN, MAX}) {
                if (c < 0 || c >= length) {
                    jumpsOut(length, c);
                }
            }
            endsAfterItsLast(length);
            lastInstructionIsOne(length);
        }
        waitsAtItsLast();
    }

    /** The other two functions are full, so that a number that only they have is found out. */
    private static void jumpsOut(int length, int c) {
        for (int function = 0; function < 3; function++) {
            for (int op = 3; op <= 4; op++) {
                CoroutineFrames x = new CoroutineFrames();
                Code code = new Code(x);
                for (int other = 0; other < 3; other++) {
                    int wanted = other == function ? length : 8;
                    for (int i = 0; i < wanted; i++) {
                        if (other == function && i == 0) {
                            x.emit(function, op, 0, c);
                        } else {
                            code.in(other).ret(0);
                        }
                    }
                }
                x.start(0, function, 5);
                due.same("op " + op + " to " + c + " of " + length, x.resume(0, 0), CoroutineFrames.DONE);
                due.stands("op " + op + " to " + c + " of " + length, x, 0, CoroutineFrames.DONE, 0, 0, 1);
            }
        }
    }

    private static void endsAfterItsLast(int length) {
        CoroutineFrames x = new CoroutineFrames();
        Code code = new Code(x).in(1).call(0, 0).yield(0, 0);
        code.in(0);
        for (int i = 0; i < length; i++) {
            code.set(0, 9);
        }
        x.start(0, 0, 5);
        x.resume(0, 0);
        due.stands("past the last of " + length, x, 0, CoroutineFrames.DONE, 0, 0, length);
        x.start(0, 1, 5);
        x.resume(0, 0);
        due.stands("the caller gets 0", x, 0, CoroutineFrames.WAITING, 0, 1, length + 2);
        x.resume(0, 5);
        due.stands("the caller ends too", x, 0, CoroutineFrames.DONE, 0, 0, 0);
    }

    private static void lastInstructionIsOne(int length) {
        CoroutineFrames x = new CoroutineFrames();
        Code code = new Code(x);
        code.jump(length - 1);
        for (int i = 1; i < length; i++) {
            code.ret(0);
        }
        x.start(0, 0, 5);
        x.resume(0, 0);
        if (length > 1) {
            due.stands("JUMP to the last", x, 0, CoroutineFrames.DONE, 5, 0, 2);
        } else {
            due.stands("JUMP to itself", x, 0, CoroutineFrames.FAILED, 0, 0, 80);
        }
    }

    /** A chain whose frames are all at their ends returns as a whole. */
    private static void waitsAtItsLast() {
        CoroutineFrames x = new CoroutineFrames();
        new Code(x).in(0).jpos(0, 3).yield(0, 0).jump(9).set(1, 1).sub(0, 1).call(0, 0);
        x.start(0, 0, 3);
        x.resume(0, 0);
        due.stands("four frames", x, 0, CoroutineFrames.WAITING, 0, 4, 14);
        due.same("all four end", x.resume(0, 8), CoroutineFrames.DONE);
        due.stands("all four end", x, 0, CoroutineFrames.DONE, 0, 0, 1);
    }

    /** Carries out 3 * R[0] + 1 instructions before the one that it ends with, which is instruction 4. */
    private static Code loop(CoroutineFrames x, int function) {
        return new Code(x).in(function).set(1, 1).jump(2).sub(0, 1).jpos(0, 1);
    }

    /**
     * "A coroutine that has carried out 80 instructions since it was started or last resumed, and neither
     * waits nor is done, FAILS."
     */
    private static void eightyInstructions() {
        CoroutineFrames x = new CoroutineFrames();
        loop(x, 0).yield(0, 0).jump(2);
        loop(x, 1).ret(1);
        loop(x, 2).set(2, 2).yield(1, 0);
        for (int co = 0; co < 4; co++) {
            x.start(co, 0, 26);
            due.same("waits with its 80th", x.resume(co, 0), CoroutineFrames.WAITING);
            due.stands("waits with its 80th", x, co, CoroutineFrames.WAITING, 0, 1, 80);
            due.same("since it was last resumed", x.resume(co, 1), CoroutineFrames.WAITING);
            due.stands("since it was last resumed", x, co, CoroutineFrames.WAITING, 0, 1, 4);
            due.same("1 + 2 + 3 * 25 + 1 = 79", x.resume(co, 26), CoroutineFrames.WAITING);
            due.stands("its 79th", x, co, CoroutineFrames.WAITING, 0, 1, 79);
            due.same("needs more", x.resume(co, 27), CoroutineFrames.FAILED);
            due.stands("needs more", x, co, CoroutineFrames.FAILED, 0, 0, 80);
            x.start(co, 1, 26);
            due.same("done with its 80th", x.resume(co, 0), CoroutineFrames.DONE);
            due.stands("done with its 80th", x, co, CoroutineFrames.DONE, 1, 0, 80);
            x.start(co, 1, 27);
            due.same("not yet done", x.resume(co, 0), CoroutineFrames.FAILED);
            due.stands("not yet done", x, co, CoroutineFrames.FAILED, 0, 0, 80);
            x.start(co, 2, 26);
            due.same("would wait with its 81st", x.resume(co, 0), CoroutineFrames.FAILED);
            due.stands("would wait with its 81st", x, co, CoroutineFrames.FAILED, 0, 0, 80);
        }
    }

    /** The 80 are the coroutine's, whatever frames carry them out. */
    private static void eightyInAChain() {
        CoroutineFrames x = new CoroutineFrames();
        loop(x, 0).ret(0);
        new Code(x).in(1).set(0, 25).call(0, 0).yield(0, 0);
        new Code(x).in(2).set(0, 25).call(0, 0).set(2, 2).yield(0, 0);
        x.start(0, 1, 0);
        x.resume(0, 0);
        due.stands("2 + 3 * 25 + 1 + 1 + 1", x, 0, CoroutineFrames.WAITING, 0, 1, 80);
        x.start(1, 2, 0);
        due.same("one more", x.resume(1, 0), CoroutineFrames.FAILED);
        due.stands("one more", x, 1, CoroutineFrames.FAILED, 0, 0, 80);
        CoroutineFrames y = new CoroutineFrames();
        loop(y, 0).jump(1);
        new Code(y).in(1).set(0, 1).call(0, 0).yield(0, 0);
        y.start(0, 1, 0);
        due.same("fails in a called frame", y.resume(0, 0), CoroutineFrames.FAILED);
        due.stands("no frame stands", y, 0, CoroutineFrames.FAILED, 0, 0, 80);
    }

    /**
     * "returning at the end of the instructions does not [count]": so it may come after the 80th. That is a
     * reading; the document doesn't say whether the 80 are looked at before that return or after it.
     */
    private static void endAfterTheEightieth() {
        CoroutineFrames x = new CoroutineFrames();
        loop(x, 0).set(2, 2);
        loop(x, 1).call(0, 2);
        x.start(0, 0, 26);
        due.same("ends after its 80th", x.resume(0, 0), CoroutineFrames.DONE);
        due.stands("ends after its 80th", x, 0, CoroutineFrames.DONE, 0, 0, 80);
        x.start(1, 1, 26);
        due.same("the 80th calls an empty function", x.resume(1, 0), CoroutineFrames.DONE);
        due.stands("the 80th calls an empty function", x, 1, CoroutineFrames.DONE, 0, 0, 80);
    }

    /** "A CALL that fails counts as carried out" */
    private static void failingCallCounts() {
        CoroutineFrames x = new CoroutineFrames();
        new Code(x).in(0).call(0, 0).in(1).set(1, 1).set(1, 1).call(0, 0);
        x.start(0, 0, 0);
        due.same("three CALLs and a failing one", x.resume(0, 0), CoroutineFrames.FAILED);
        due.stands("three CALLs and a failing one", x, 0, CoroutineFrames.FAILED, 0, 0, 4);
        x.start(1, 1, 0);
        due.same("two more before", x.resume(1, 0), CoroutineFrames.FAILED);
        due.stands("two more before", x, 1, CoroutineFrames.FAILED, 0, 0, 6);
    }

    /** "returning at the end of the instructions does not" */
    private static void returnAtTheEndDoesNotCount() {
        CoroutineFrames x = new CoroutineFrames();
        new Code(x).in(0).call(0, 1).call(0, 1).call(0, 1).set(0, 3).ret(0).in(2).call(0, 1).jump(0);
        x.start(0, 0, 0);
        x.resume(0, 0);
        due.stands("three frames that end at once", x, 0, CoroutineFrames.DONE, 3, 0, 5);
        x.start(1, 1, 0);
        x.resume(1, 0);
        due.stands("nothing but the end", x, 1, CoroutineFrames.DONE, 0, 0, 0);
        x.start(2, 2, 0);
        due.same("forty ends and 80 instructions", x.resume(2, 0), CoroutineFrames.FAILED);
        due.stands("forty ends and 80 instructions", x, 2, CoroutineFrames.FAILED, 0, 0, 80);
        CoroutineFrames y = new CoroutineFrames();
        // 3 + 4 * 19 + 1 = 80, with 38 returns at the end between them.
        new Code(y).in(0).set(1, 1).set(2, 2).set(2, 2).call(3, 2).call(3, 2).sub(0, 1).jpos(0, 3).yield(0, 0);
        y.start(0, 0, 19);
        due.same("returns between don't count", y.resume(0, 0), CoroutineFrames.WAITING);
        due.stands("returns between don't count", y, 0, CoroutineFrames.WAITING, 0, 1, 80);
    }

    /** "has a VALUE: what it gave when it began to wait, or returned; 0 in other states" */
    private static void valueInOtherStates() {
        CoroutineFrames x = new CoroutineFrames();
        new Code(x).in(0).yield(0, 1).jpos(1, 3).ret(1).jump(3).in(1).yield(0, 1).call(0, 1);
        for (int co = 0; co < 4; co++) {
            due.same("NONE", x.value(co), 0);
            x.start(co, 0, 7);
            due.same("READY", x.value(co), 0);
            x.resume(co, 8);
            due.same("WAITING", x.value(co), 7);
            x.start(co, 0, 7);
            due.same("READY after WAITING", x.value(co), 0);
            x.resume(co, 8);
            x.resume(co, 1);
            due.stands("FAILED after 80", x, co, CoroutineFrames.FAILED, 0, 0, 80);
            x.start(co, 0, 7);
            x.resume(co, 8);
            x.resume(co, -3);
            due.same("DONE", x.value(co), -3);
            x.start(co, 0, 7);
            due.same("READY after DONE", x.value(co), 0);
            x.resume(co, 8);
            x.drop(co);
            due.same("NONE after WAITING", x.value(co), 0);
            x.start(co, 1, 7);
            for (int depth = 1; depth <= 4; depth++) {
                x.resume(co, 8);
                due.same("WAITING at depth " + depth, x.value(co), 7);
            }
            x.resume(co, 8);
            due.stands("FAILED by CALL", x, co, CoroutineFrames.FAILED, 0, 0, 1);
            x.drop(co);
        }
    }

    /** "An object is used for at most 512 calls after it has been made": the 512th is still as due. */
    private static void objectOfManyCalls() {
        CoroutineFrames x = new CoroutineFrames();
        new Code(x).set(1, 1).yield(0, 0).add(0, 1).jump(1);
        x.start(3, 0, 0);
        due.same("call 6", x.resume(3, 0), CoroutineFrames.WAITING);
        int value = 0;
        for (int call = 7; call < 511; call += 2) {
            due.same("call " + call, x.echo(3, 1), value + 1);
            value++;
            due.same("call " + (call + 1), x.value(3), value);
        }
        due.same("call 511", x.resume(3, 1000), CoroutineFrames.WAITING);
        due.same("call 512", x.value(3), 1001);
    }
}
