/**
 * The sentences of "Terms" about programs, chains and coroutines, each above its test. InstructionsTest has the
 * instructions, BoundaryTermsTest the sentences that name an edge.
 */
public final class TermsTest {
    private static final Due due = new Due();

    public static void main(String[] args) {
        threeFunctionsOfEight();
        chainOfOneToFour();
        lastFrameIsTheOneAtWork();
        goesOnAtItsNext();
        fourCoroutines();
        fiveStates();
        readyHasCarriedOutNothing();
        due.end();
    }

    /**
     * "A PROGRAM has three FUNCTIONS (0 to 2) of at most eight INSTRUCTIONS each, numbered from 0 within the
     * function."
     */
    private static void threeFunctionsOfEight() {
        CoroutineFrames x = new CoroutineFrames();
        for (int number = 0; number < 8; number++) {
            for (int function = 0; function < 3; function++) {
                int answer = number < 4
                        ? x.emit(function, 0, number, 100 * function + number)
                        : x.emit(function, 5, number - 4, 0);
                due.same("emit into " + function, answer, number);
            }
        }
        for (int function = 0; function < 3; function++) {
            due.same("a ninth", x.emit(function, 7, 0, 0), CoroutineFrames.FULL);
        }
        for (int function = 0; function < 3; function++) {
            x.start(function, function, -1);
            for (int number = 0; number < 4; number++) {
                x.resume(function, 100 * function);
                due.stands("function " + function + " has its own", x, function, CoroutineFrames.WAITING,
                        100 * function + number, 1, number == 0 ? 5 : 1);
            }
            due.same("no more than eight", x.resume(function, 0), CoroutineFrames.DONE);
            due.stands("no more than eight", x, function, CoroutineFrames.DONE, 0, 0, 0);
        }
    }

    /** "A coroutine is a chain of one to four FRAMES, each carrying out a function" */
    private static void chainOfOneToFour() {
        CoroutineFrames x = new CoroutineFrames();
        new Code(x).in(0).yield(0, 1).call(1, 1).yield(1, 1).ret(1)
                .in(1).set(2, 1000).add(0, 2).yield(0, 1).call(1, 2).yield(1, 1).add(1, 2).ret(1)
                .in(2).set(2, 2000).add(0, 2).yield(0, 1).call(1, 0).yield(1, 1).add(1, 2).ret(1);
        x.start(0, 0, 1);
        x.resume(0, 0);
        due.stands("one frame, of function 0", x, 0, CoroutineFrames.WAITING, 1, 1, 1);
        x.resume(0, 2);
        due.stands("two, the last of function 1", x, 0, CoroutineFrames.WAITING, 1002, 2, 4);
        x.resume(0, 3);
        due.stands("three, the last of function 2", x, 0, CoroutineFrames.WAITING, 2003, 3, 4);
        x.resume(0, 4);
        due.stands("four, the last of function 0", x, 0, CoroutineFrames.WAITING, 4, 4, 2);
        x.copy(0, 1);
        due.same("no fifth", x.resume(0, 5), CoroutineFrames.FAILED);
        due.stands("no fifth", x, 0, CoroutineFrames.FAILED, 0, 0, 1);
        due.stands("a chain of four waits on", x, 1, CoroutineFrames.WAITING, 4, 4, 2);
    }

    /** "the last frame of the chain is the one at work": the others stay as they are until it is gone. */
    private static void lastFrameIsTheOneAtWork() {
        CoroutineFrames x = new CoroutineFrames();
        new Code(x).in(0).set(1, 1).sub(0, 1).jpos(0, 4).jump(6).call(0, 0).ret(0).call(0, 1).ret(0)
                .in(1).yield(0, 2).yield(2, 3).yield(3, 0).ret(0);
        x.start(0, 0, 3);
        x.resume(0, 0);
        due.stands("four frames: 4 + 4 + 5 + 1", x, 0, CoroutineFrames.WAITING, 0, 4, 14);
        int[] given = {-5, 66, 777};
        for (int i = 0; i < 2; i++) {
            x.resume(0, given[i]);
            due.stands("only the last one works", x, 0, CoroutineFrames.WAITING, given[i], 4, 1);
        }
        due.same("its callers return what it returned", x.resume(0, given[2]), CoroutineFrames.DONE);
        due.stands("its callers return what it returned", x, 0, CoroutineFrames.DONE, given[2], 0, 4);
    }

    /** "A frame goes on at its next instruction unless it jumps" */
    private static void goesOnAtItsNext() {
        for (int op = 0; op < 8; op++) {
            if (op != 3 && op != 7) {
                CoroutineFrames x = new CoroutineFrames();
                x.emit(0, op, 3 | 3 << 2, 2);
                new Code(x).in(0).set(1, 10).yield(1, 2).set(1, 20).yield(1, 2);
                x.start(0, 0, 0);
                x.resume(0, 0);
                if (op == 5) {
                    due.stands("the YIELD itself", x, 0, CoroutineFrames.WAITING, 0, 1, 1);
                    x.resume(0, 0);
                }
                due.stands("next after op " + op, x, 0, CoroutineFrames.WAITING, 10, 1, op == 5 ? 2 : 3);
                x.resume(0, 0);
                due.stands("next after a YIELD", x, 0, CoroutineFrames.WAITING, 20, 1, 2);
            }
        }
    }

    /** "There are four COROUTINES (0 to 3)": what one does is not seen in another. */
    private static void fourCoroutines() {
        CoroutineFrames x = new CoroutineFrames();
        new Code(x).in(0).set(1, 1).yield(0, 2).add(0, 2).sub(3, 1).call(3, 1).jump(1)
                .in(1).yield(0, 1).add(0, 1).ret(0);
        int[] sums = {0, 1000, 2000, 3000};
        for (int co = 0; co < 4; co++) {
            due.same("start(" + co + ")", x.start(co, 0, sums[co]), 0);
        }
        for (int co = 0; co < 4; co++) {
            x.resume(co, 0);
        }
        for (int turn = 1; turn <= 12; turn++) {
            int co = turn * 3 % 4;
            due.stands("coroutine " + co, x, co, CoroutineFrames.WAITING, sums[co], 1, turn <= 4 ? 2 : 4);
            int third = -(turn + 3) / 4;
            x.resume(co, turn);
            due.stands("coroutine " + co + " in its call", x, co, CoroutineFrames.WAITING, third, 2, 4);
            x.resume(co, 0);
            sums[co] += turn;
        }
        for (int co = 0; co < 4; co++) {
            due.stands("coroutine " + co, x, co, CoroutineFrames.WAITING, sums[co], 1, 4);
        }
        due.same("a fifth", x.start(4, 0, 0), CoroutineFrames.BAD_NUMBER);
    }

    /**
     * "each is in one of the states NONE, READY (started, nothing carried out yet), WAITING, DONE, FAILED, and has
     * a VALUE: what it gave when it began to wait, or returned; 0 in other states"
     */
    private static void fiveStates() {
        CoroutineFrames x = new CoroutineFrames();
        new Code(x).in(0).set(1, 11).yield(1, 0).jpos(0, 2).ret(0);
        for (int co = 0; co < 4; co++) {
            due.stands("not yet started", x, co, CoroutineFrames.NONE, 0, 0, 0);
            x.start(co, 0, 5);
            due.stands("started", x, co, CoroutineFrames.READY, 0, 1, 0);
            due.same("resume", x.resume(co, 0), CoroutineFrames.WAITING);
            due.stands("what it gave", x, co, CoroutineFrames.WAITING, 11, 1, 2);
            due.same("resume", x.resume(co, -9), CoroutineFrames.DONE);
            due.stands("what it returned", x, co, CoroutineFrames.DONE, -9, 0, 2);
            x.start(co, 0, 5);
            x.resume(co, 0);
            due.same("resume", x.resume(co, 1), CoroutineFrames.FAILED);
            due.stands("neither gave nor returned", x, co, CoroutineFrames.FAILED, 0, 0, 80);
        }
    }

    /** "READY (started, nothing carried out yet)": even one that would end or fail at once. */
    private static void readyHasCarriedOutNothing() {
        CoroutineFrames x = new CoroutineFrames();
        new Code(x).in(0).jump(0).in(1).ret(0);
        int[] after = {CoroutineFrames.FAILED, CoroutineFrames.DONE, CoroutineFrames.DONE};
        int[] values = {0, 8, 0};
        int[] steps = {80, 1, 0};
        for (int function = 0; function < 3; function++) {
            x.start(2, function, 8);
            due.stands("function " + function + " started", x, 2, CoroutineFrames.READY, 0, 1, 0);
            due.same("function " + function + " resumed", x.resume(2, 3), after[function]);
            due.stands("function " + function + " resumed", x, 2, after[function], values[function], 0, steps[function]);
        }
    }
}
