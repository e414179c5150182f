import java.util.function.ToIntFunction;

/** Promises 1 to 7 and 13 at their boundaries: a test for each sentence, which stands above it. */
public final class BoundaryCallsTest {
    private static final int[] BAD_OPS = {-1, 8, Integer.MIN_VALUE, Integer.MAX_VALUE};

    private static final Due due = new Due();
    private static final Refusal refusal = new Refusal(due);

    public static void main(String[] args) {
        scenesAreAsMeant();
        newObjectHasNoInstructions();
        newObjectHasNoCoroutines();
        emitFunctionNotInRange();
        emitOpNotInRange();
        emitWhileOneIsNotNone();
        emitIntoAFullFunction();
        emitAnswersTheNumber();
        emitOrder();
        startWhateverItWas();
        startLeavesNoRegisterAsItWas();
        startCoroutineNotInRange();
        startFunctionNotInRange();
        resumeCoroutineNotInRange();
        resumeOfOneNeitherReadyNorWaiting();
        resumeOfAReadyOneDoesNotLook();
        echoBelowZero();
        echoAboveTwenty();
        echoCoroutineNotInRange();
        echoOfOneNotWaiting();
        echoAsLongAsItWaits();
        echoSumWraps();
        copyCoroutineNotInRange();
        copyWhateverItWas();
        copyOntoItself();
        dropCoroutineNotInRange();
        dropAnswersTheOldState();
        due.end();
    }

    private static void refusedInEveryScene(String call, ToIntFunction<CoroutineFrames> refused, int answer) {
        refusal.changesNothing(call + " on a program", Scene::program, refused, answer);
        for (int i = 0; i < Scene.COUNT; i++) {
            int scene = i;
            refusal.changesNothing(call + " in scene " + scene, () -> Scene.withAllStates(scene), refused, answer);
        }
    }

    /** Were a scene's states others than it says, the tests below would ask about the wrong ones. */
    private static void scenesAreAsMeant() {
        for (int scene = 0; scene < Scene.COUNT; scene++) {
            CoroutineFrames x = Scene.withAllStates(scene);
            for (int co = 0; co < 4; co++) {
                due.same("scene " + scene + ": state(" + co + ")", x.state(co), Scene.stateOf(scene, co));
                due.same("scene " + scene + ": depth(" + co + ")", x.depth(co), new int[] {0, 1, 3, 0, 0}[x.state(co)]);
            }
        }
    }

    /** "No instructions" */
    private static void newObjectHasNoInstructions() {
        for (int function = 0; function < 3; function++) {
            CoroutineFrames x = new CoroutineFrames();
            x.start(0, function, 9);
            due.same("resume of an empty function", x.resume(0, 9), CoroutineFrames.DONE);
            due.stands("an empty function", x, 0, CoroutineFrames.DONE, 0, 0, 0);
            x.drop(0);
            due.same("first emit", x.emit(function, 0, 0, 0), 0);
        }
    }

    /** "all coroutines NONE" */
    private static void newObjectHasNoCoroutines() {
        CoroutineFrames x = new CoroutineFrames();
        for (int co = 0; co < 4; co++) {
            due.stands("new", x, co, CoroutineFrames.NONE, 0, 0, 0);
        }
    }

    /** "function not in 0 to 2 ...: BAD_NUMBER; ... nothing changes then" */
    private static void emitFunctionNotInRange() {
        for (int function : Code.BAD_FUNCTIONS) {
            refusedInEveryScene("emit(" + function + ", 0, 0, 0)", x -> x.emit(function, 0, 0, 0),
                    CoroutineFrames.BAD_NUMBER);
        }
    }

    /** "or op not in 0 to 7: BAD_NUMBER; ... nothing changes then" */
    private static void emitOpNotInRange() {
        for (int op : BAD_OPS) {
            for (int f = 0; f < 3; f++) {
                int function = f;
                refusedInEveryScene("emit(" + function + ", " + op + ", 0, 0)", x -> x.emit(function, op, 0, 0),
                        CoroutineFrames.BAD_NUMBER);
            }
        }
        CoroutineFrames x = new CoroutineFrames();
        for (int op = 0; op < 8; op++) {
            due.same("emit(2, " + op + ", 0, 0)", x.emit(2, op, 0, 0), op);
        }
    }

    /** "a coroutine is not NONE: LOCKED; ... nothing changes then" */
    private static void emitWhileOneIsNotNone() {
        for (int c = 0; c < 4; c++) {
            for (int s = CoroutineFrames.READY; s <= CoroutineFrames.FAILED; s++) {
                int co = c;
                int state = s;
                refusal.changesNothing("emit, " + co + " in state " + state, () -> withOne(co, state),
                        x -> x.emit(2, 7, 5, 1), CoroutineFrames.LOCKED);
                CoroutineFrames x = withOne(co, state);
                x.drop(co);
                due.same("emit, none but NONE", x.emit(2, 7, 0, 0), 3);
            }
        }
    }

    private static CoroutineFrames withOne(int co, int state) {
        CoroutineFrames x = Scene.program();
        Scene.bring(x, co, state);
        due.same("brought to its state", x.state(co), state);
        return x;
    }

    /** "the function has eight: FULL; nothing changes then" */
    private static void emitIntoAFullFunction() {
        for (int f = 0; f < 3; f++) {
            int function = f;
            for (int op = 0; op < 8; op++) {
                int any = op;
                refusal.changesNothing("ninth emit in " + function, () -> withFull(function),
                        x -> x.emit(function, any, 15, 3), CoroutineFrames.FULL);
            }
            CoroutineFrames x = withFull(function);
            x.emit(function, 7, 0, 0);
            due.same("another has room", x.emit((function + 1) % 3, 7, 0, 0), 0);
        }
    }

    private static CoroutineFrames withFull(int function) {
        CoroutineFrames x = new CoroutineFrames();
        Code code = new Code(x).in(function);
        code.set(1, 1).set(2, 2).set(3, 3).add(0, 1).add(0, 2).add(0, 3).yield(0, 1).ret(1);
        return x;
    }

    /** "Else answers its number": "at most eight INSTRUCTIONS each, numbered from 0 within the function" */
    private static void emitAnswersTheNumber() {
        CoroutineFrames x = new CoroutineFrames();
        for (int place = 0; place < 8; place++) {
            for (int function = 2; function >= 0; function--) {
                due.same("emit in " + function, x.emit(function, 7, 0, 0), place);
            }
        }
    }

    /** "emit: tested in the order BAD_NUMBER, LOCKED, FULL." */
    private static void emitOrder() {
        refusal.changesNothing("bad op, locked and full", () -> withOne(3, CoroutineFrames.DONE),
                x -> x.emit(0, 8, 0, 0), CoroutineFrames.BAD_NUMBER);
        refusal.changesNothing("bad function, locked", () -> withOne(3, CoroutineFrames.DONE),
                x -> x.emit(3, 0, 0, 0), CoroutineFrames.BAD_NUMBER);
        refusal.changesNothing("bad op, full", Scene::program, x -> x.emit(0, -1, 0, 0), CoroutineFrames.BAD_NUMBER);
        refusal.changesNothing("locked and full", () -> withOne(3, CoroutineFrames.DONE),
                x -> x.emit(0, 0, 0, 0), CoroutineFrames.LOCKED);
        refusal.changesNothing("full", Scene::program, x -> x.emit(0, 0, 0, 0), CoroutineFrames.FULL);
    }

    /** "Starts a coroutine anew, whatever it was: one frame of the function at its instruction 0 ...; state READY" */
    private static void startWhateverItWas() {
        for (int scene = 0; scene < Scene.COUNT; scene++) {
            for (int argument : new int[] {0, -1, Integer.MAX_VALUE, Integer.MIN_VALUE}) {
                CoroutineFrames x = Scene.withAllStates(scene);
                for (int co = 0; co < 4; co++) {
                    due.same("start", x.start(co, 2, argument), 0);
                    due.stands("started", x, co, CoroutineFrames.READY, 0, 1, 0);
                    due.same("resume", x.resume(co, 77), CoroutineFrames.WAITING);
                    due.stands("from instruction 0", x, co, CoroutineFrames.WAITING, argument + argument, 1, 2);
                }
            }
        }
    }

    /** "R[0] being the argument, other registers 0" */
    private static void startLeavesNoRegisterAsItWas() {
        CoroutineFrames x = new CoroutineFrames();
        new Code(x).add(0, 1).add(0, 2).add(0, 3).set(1, 100).set(2, 1000).set(3, 10000).yield(0, 0).jump(7);
        for (int co = 0; co < 4; co++) {
            x.start(co, 0, 5);
            x.resume(co, 77);
            due.same("new", x.value(co), 5);
            x.start(co, 0, -6);
            x.resume(co, 77);
            due.same("after WAITING", x.value(co), -6);
            due.same("fails", x.resume(co, 77), CoroutineFrames.FAILED);
            x.start(co, 0, 7);
            x.resume(co, 77);
            due.same("after FAILED", x.value(co), 7);
            x.drop(co);
            x.start(co, 0, 8);
            x.resume(co, 77);
            due.same("after drop", x.value(co), 8);
        }
    }

    /** "co not in 0 to 3 ...: BAD_NUMBER, nothing changes" */
    private static void startCoroutineNotInRange() {
        for (int co : Code.BAD_COROUTINES) {
            refusedInEveryScene("start(" + co + ", 0, 1)", x -> x.start(co, 0, 1), CoroutineFrames.BAD_NUMBER);
        }
    }

    /** "or function not in 0 to 2: BAD_NUMBER, nothing changes" */
    private static void startFunctionNotInRange() {
        for (int function : Code.BAD_FUNCTIONS) {
            for (int c = 0; c < 4; c++) {
                int co = c;
                refusedInEveryScene("start(" + co + ", " + function + ", 1)", x -> x.start(co, function, 1),
                        CoroutineFrames.BAD_NUMBER);
            }
            refusedInEveryScene("start(4, " + function + ", 1)", x -> x.start(4, function, 1),
                    CoroutineFrames.BAD_NUMBER);
        }
    }

    /** resume: "BAD_NUMBER; ... nothing changes then" */
    private static void resumeCoroutineNotInRange() {
        for (int co : Code.BAD_COROUTINES) {
            refusedInEveryScene("resume(" + co + ", 1)", x -> x.resume(co, 1), CoroutineFrames.BAD_NUMBER);
        }
    }

    /** "its state is neither READY nor WAITING: NOT_READY; nothing changes then" */
    private static void resumeOfOneNeitherReadyNorWaiting() {
        for (int s = 0; s < Scene.COUNT; s++) {
            int scene = s;
            for (int c = 0; c < 4; c++) {
                int co = c;
                int state = Scene.stateOf(scene, co);
                if (state != CoroutineFrames.READY && state != CoroutineFrames.WAITING) {
                    refusal.changesNothing("resume of state " + state, () -> Scene.withAllStates(scene),
                            x -> x.resume(co, 6), CoroutineFrames.NOT_READY);
                }
            }
        }
    }

    /** "(a ready one doesn't look at it)" */
    private static void resumeOfAReadyOneDoesNotLook() {
        for (int value : new int[] {1, -1, Integer.MAX_VALUE, Integer.MIN_VALUE}) {
            CoroutineFrames x = new CoroutineFrames();
            new Code(x).yield(0, 0).add(0, 1).add(0, 2).add(0, 3).ret(0);
            x.start(0, 0, 5);
            x.resume(0, value);
            due.stands("R[0] is the argument", x, 0, CoroutineFrames.WAITING, 5, 1, 1);
            x.resume(0, 40);
            due.stands("no register holds the first value", x, 0, CoroutineFrames.DONE, 40, 0, 4);
        }
    }

    /** "n below 0 counts as 0": nothing is resumed, and the sum of nothing is 0. */
    private static void echoBelowZero() {
        for (int n : new int[] {0, -1, -20, -21, Integer.MIN_VALUE}) {
            for (int s = 0; s < Scene.COUNT; s++) {
                int scene = s;
                for (int c = 0; c < 4; c++) {
                    int co = c;
                    if (Scene.stateOf(scene, co) == CoroutineFrames.WAITING) {
                        refusal.changesNothing("echo(" + co + ", " + n + ")", () -> Scene.withAllStates(scene),
                                x -> x.echo(co, n), 0);
                    }
                }
            }
        }
    }

    /** "above 20 as 20" */
    private static void echoAboveTwenty() {
        for (int n : new int[] {19, 20, 21, 40, Integer.MAX_VALUE}) {
            int times = n == 19 ? 19 : 20;
            CoroutineFrames x = new CoroutineFrames();
            new Code(x).set(1, 1).yield(0, 0).add(0, 1).jump(1);
            x.start(0, 0, 0);
            x.resume(0, 0);
            due.same("echo(0, " + n + ")", x.echo(0, n), times * (times + 1) / 2);
            due.stands("after echo(0, " + n + ")", x, 0, CoroutineFrames.WAITING, times, 1, 3);
        }
    }

    /** echo: "BAD_NUMBER; ... nothing changes then" */
    private static void echoCoroutineNotInRange() {
        for (int co : Code.BAD_COROUTINES) {
            refusedInEveryScene("echo(" + co + ", 3)", x -> x.echo(co, 3), CoroutineFrames.BAD_NUMBER);
            refusedInEveryScene("echo(" + co + ", 0)", x -> x.echo(co, 0), CoroutineFrames.BAD_NUMBER);
        }
    }

    /** "it isn't waiting: NOT_READY; nothing changes then" */
    private static void echoOfOneNotWaiting() {
        for (int n : new int[] {3, 0, -1}) {
            for (int s = 0; s < Scene.COUNT; s++) {
                int scene = s;
                for (int c = 0; c < 4; c++) {
                    int co = c;
                    int state = Scene.stateOf(scene, co);
                    if (state != CoroutineFrames.WAITING) {
                        refusal.changesNothing("echo of state " + state, () -> Scene.withAllStates(scene),
                                x -> x.echo(co, n), CoroutineFrames.NOT_READY);
                    }
                }
            }
        }
    }

    /** "as long as it waits": one that is done counts with its value, one that failed with 0. */
    private static void echoAsLongAsItWaits() {
        CoroutineFrames x = new CoroutineFrames();
        new Code(x).in(0).yield(0, 1).yield(0, 1).add(0, 1).ret(0).in(1).yield(0, 1).yield(0, 1).jump(2);
        for (int n : new int[] {2, 3, 20}) {
            x.start(0, 0, 4);
            x.resume(0, 0);
            due.same("echo(0, " + n + "), the second is the last", x.echo(0, n), 4 + 8);
            due.stands("done", x, 0, CoroutineFrames.DONE, 8, 0, 2);
            x.start(1, 1, 4);
            x.resume(1, 0);
            due.same("echo(1, " + n + "), the second fails", x.echo(1, n), 4);
            due.stands("failed", x, 1, CoroutineFrames.FAILED, 0, 0, 80);
        }
    }

    /** "Else answers the sum (wrapping) of its values after each of these." */
    private static void echoSumWraps() {
        CoroutineFrames x = new CoroutineFrames();
        new Code(x).yield(0, 0).jump(0);
        x.start(0, 0, Integer.MAX_VALUE);
        x.resume(0, 0);
        due.same("1 * MAX", x.echo(0, 1), Integer.MAX_VALUE);
        due.same("2 * MAX", x.echo(0, 2), -2);
        due.same("20 * MAX", x.echo(0, 20), -20);
        x.start(0, 0, Integer.MIN_VALUE);
        x.resume(0, 0);
        due.same("1 * MIN", x.echo(0, 1), Integer.MIN_VALUE);
        due.same("2 * MIN", x.echo(0, 2), 0);
        due.same("3 * MIN", x.echo(0, 3), Integer.MIN_VALUE);
    }

    /** copy: "BAD_NUMBER", for either of the two. */
    private static void copyCoroutineNotInRange() {
        for (int bad : Code.BAD_COROUTINES) {
            for (int c = 0; c < 4; c++) {
                int co = c;
                refusedInEveryScene("copy(" + bad + ", " + co + ")", x -> x.copy(bad, co), CoroutineFrames.BAD_NUMBER);
                refusedInEveryScene("copy(" + co + ", " + bad + ")", x -> x.copy(co, bad), CoroutineFrames.BAD_NUMBER);
            }
            refusedInEveryScene("copy(" + bad + ", " + bad + ")", x -> x.copy(bad, bad), CoroutineFrames.BAD_NUMBER);
        }
    }

    /** "an independent copy of coroutine 'from' as it is, whatever it was. ... Else answers its state." */
    private static void copyWhateverItWas() {
        for (int from = 0; from < 4; from++) {
            for (int to = 0; to < 4; to++) {
                for (int state = 0; from != to && state < Scene.COUNT * Scene.COUNT; state++) {
                    copies(from, state / Scene.COUNT, to, state % Scene.COUNT);
                }
            }
        }
    }

    private static void copies(int from, int state, int to, int oldState) {
        CoroutineFrames x = Scene.program();
        Scene.bring(x, from, state);
        Scene.bring(x, to, oldState);
        String call = "copy(" + from + " in state " + state + ", " + to + " in state " + oldState + ")";
        due.same(call, x.copy(from, to), state);
        due.stands(call, x, to, x.state(from), x.value(from), x.depth(from), x.steps(from));
        CoroutineFrames alone = Scene.program();
        Scene.bring(alone, from, state);
        for (int i = 0; i < 4; i++) {
            due.same(call + ", then resume", x.resume(to, i), alone.resume(from, i));
            due.same(call + ", then value", x.value(to), alone.value(from));
        }
        due.same(call + ": the first stays", x.state(from), state);
    }

    /** "Coroutine 'to' becomes an independent copy of coroutine 'from' as it is", both being one. */
    private static void copyOntoItself() {
        for (int s = 0; s < Scene.COUNT; s++) {
            int scene = s;
            for (int c = 0; c < 4; c++) {
                int co = c;
                refusal.changesNothing("copy(" + co + ", " + co + ")", () -> Scene.withAllStates(scene),
                        x -> x.copy(co, co), Scene.stateOf(scene, co));
            }
        }
    }

    /** drop: "BAD_NUMBER." */
    private static void dropCoroutineNotInRange() {
        for (int co : Code.BAD_COROUTINES) {
            refusedInEveryScene("drop(" + co + ")", x -> x.drop(co), CoroutineFrames.BAD_NUMBER);
        }
    }

    /** "The coroutine becomes NONE. ... Else answers its old state."; "steps: 0 also after drop." */
    private static void dropAnswersTheOldState() {
        for (int scene = 0; scene < Scene.COUNT; scene++) {
            CoroutineFrames x = Scene.withAllStates(scene);
            for (int co = 0; co < 4; co++) {
                due.same("drop(" + co + ")", x.drop(co), Scene.stateOf(scene, co));
                due.stands("dropped", x, co, CoroutineFrames.NONE, 0, 0, 0);
                due.same("drop(" + co + ") again", x.drop(co), CoroutineFrames.NONE);
            }
        }
    }
}
