/** Promises 8 to 13 at their boundaries: a test for each sentence, which stands above it. */
public final class BoundaryTellingTest {
    private static final Due due = new Due();
    private static final Refusal refusal = new Refusal(due);

    public static void main(String[] args) {
        badNumberFirst();
        tellingChangesNothing();
        depthInEveryState();
        alikeStateAndValue();
        alikeNotInRange();
        stepsBeforeAnyResume();
        stepsAfterARefusedResume();
        stepsOfTheLastOneForEcho();
        stepsOfACopy();
        stepsAfterDrop();
        due.end();
    }

    /** "The calls below change nothing. BAD_NUMBER first." */
    private static void badNumberFirst() {
        for (int s = 0; s < Scene.COUNT; s++) {
            int scene = s;
            for (int co : Code.BAD_COROUTINES) {
                refusal.changesNothing("state(" + co + ")", () -> Scene.withAllStates(scene), x -> x.state(co),
                        CoroutineFrames.BAD_NUMBER);
                refusal.changesNothing("value(" + co + ")", () -> Scene.withAllStates(scene), x -> x.value(co),
                        CoroutineFrames.BAD_NUMBER);
                refusal.changesNothing("depth(" + co + ")", () -> Scene.withAllStates(scene), x -> x.depth(co),
                        CoroutineFrames.BAD_NUMBER);
                refusal.changesNothing("steps(" + co + ")", () -> Scene.withAllStates(scene), x -> x.steps(co),
                        CoroutineFrames.BAD_NUMBER);
            }
        }
    }

    /** "The calls below change nothing." */
    private static void tellingChangesNothing() {
        for (int s = 0; s < Scene.COUNT; s++) {
            int scene = s;
            for (int c = 0; c < 4; c++) {
                int co = c;
                CoroutineFrames y = Scene.withAllStates(scene);
                refusal.changesNothing("state(" + co + ")", () -> Scene.withAllStates(scene), x -> x.state(co),
                        Scene.stateOf(scene, co));
                refusal.changesNothing("value(" + co + ")", () -> Scene.withAllStates(scene), x -> x.value(co),
                        y.value(co));
                refusal.changesNothing("depth(" + co + ")", () -> Scene.withAllStates(scene), x -> x.depth(co),
                        y.depth(co));
                refusal.changesNothing("steps(" + co + ")", () -> Scene.withAllStates(scene), x -> x.steps(co),
                        y.steps(co));
                refusal.changesNothing("alike(0, " + co + ")", () -> Scene.withAllStates(scene),
                        x -> x.alike(0, co) ? 1 : 0, co == 0 ? 1 : 0);
            }
        }
    }

    /** "How many frames stand: 0 in the states NONE, DONE and FAILED." */
    private static void depthInEveryState() {
        for (int scene = 0; scene < Scene.COUNT; scene++) {
            CoroutineFrames x = Scene.withAllStates(scene);
            for (int co = 0; co < 4; co++) {
                int state = Scene.stateOf(scene, co);
                due.same("depth in state " + state, x.depth(co), new int[] {0, 1, 3, 0, 0}[state]);
            }
        }
        CoroutineFrames x = new CoroutineFrames();
        new Code(x).in(0).jpos(0, 3).yield(0, 1).jump(8).set(1, 1).sub(0, 1).call(0, 0).jump(6);
        for (int depth = 1; depth <= 4; depth++) {
            x.start(0, 0, depth - 1);
            due.same("READY", x.depth(0), 1);
            x.resume(0, 0);
            due.same("WAITING", x.depth(0), depth);
            x.copy(0, 1);
            x.drop(0);
            due.same("NONE after depth " + depth, x.depth(0), 0);
            due.same("resume of the copy", x.resume(1, 0), depth == 1 ? CoroutineFrames.DONE : CoroutineFrames.FAILED);
            due.same("DONE or FAILED after depth " + depth, x.depth(1), 0);
        }
    }

    /** "Whether two coroutines are in the same state and have the same value" */
    private static void alikeStateAndValue() {
        CoroutineFrames x = new CoroutineFrames();
        new Code(x).in(0).yield(0, 1).ret(1).in(1).jump(0);
        x.start(0, 0, 0);
        x.resume(0, 0);
        due.no("WAITING with 0 and NONE", x.alike(0, 1));
        x.start(1, 0, 0);
        due.no("WAITING with 0 and READY", x.alike(0, 1));
        x.resume(1, 0);
        x.resume(1, 0);
        due.no("WAITING with 0 and DONE with 0", x.alike(0, 1));
        x.start(2, 1, 0);
        x.resume(2, 0);
        due.no("DONE with 0 and FAILED", x.alike(1, 2));
        due.no("FAILED and NONE", x.alike(2, 3));
        x.start(3, 0, 1);
        x.resume(3, 0);
        due.no("WAITING with 0 and with 1", x.alike(0, 3));
        x.resume(3, 0);
        due.yes("DONE with 0 both", x.alike(1, 3));
        x.start(3, 0, 0);
        x.resume(3, 0);
        due.yes("WAITING with 0 both", x.alike(3, 0));
        for (int co = 0; co < 4; co++) {
            due.yes("with itself", x.alike(co, co));
        }
    }

    /** "false if one is not in 0 to 3" */
    private static void alikeNotInRange() {
        for (int s = 0; s < Scene.COUNT; s++) {
            int scene = s;
            for (int bad : Code.BAD_COROUTINES) {
                for (int c = 0; c < 4; c++) {
                    int co = c;
                    refusal.changesNothing("alike(" + bad + ", " + co + ")", () -> Scene.withAllStates(scene),
                            x -> x.alike(bad, co) ? 1 : 0, 0);
                    refusal.changesNothing("alike(" + co + ", " + bad + ")", () -> Scene.withAllStates(scene),
                            x -> x.alike(co, bad) ? 1 : 0, 0);
                }
                refusal.changesNothing("alike(" + bad + ", " + bad + ")", () -> Scene.withAllStates(scene),
                        x -> x.alike(bad, bad) ? 1 : 0, 0);
            }
        }
    }

    /** "0 before any since its start" */
    private static void stepsBeforeAnyResume() {
        for (int scene = 0; scene < Scene.COUNT; scene++) {
            CoroutineFrames x = Scene.withAllStates(scene);
            for (int co = 0; co < 4; co++) {
                x.start(co, 2, 1);
                due.same("steps(" + co + ") of one started anew", x.steps(co), 0);
                x.resume(co, 0);
                due.same("steps(" + co + ") of its first", x.steps(co), 2);
                x.resume(co, 0);
                due.same("steps(" + co + ") of its second", x.steps(co), 1);
            }
        }
    }

    /** "the last resume of this coroutine that was not refused" */
    private static void stepsAfterARefusedResume() {
        CoroutineFrames x = Scene.program();
        int[] steps = {0, 0, 3, 2, 80};
        for (int state = 0; state < Scene.COUNT; state++) {
            Scene.bring(x, 0, state);
            due.same("steps in state " + state, x.steps(0), steps[state]);
            if (state != CoroutineFrames.READY && state != CoroutineFrames.WAITING) {
                due.same("resume", x.resume(0, 0), CoroutineFrames.NOT_READY);
            }
            if (state != CoroutineFrames.WAITING) {
                due.same("echo", x.echo(0, 1), CoroutineFrames.NOT_READY);
            }
            due.same("resume(4)", x.resume(4, 0), CoroutineFrames.BAD_NUMBER);
            due.same("echo(-1)", x.echo(-1, 1), CoroutineFrames.BAD_NUMBER);
            x.start(1, 2, 1);
            x.resume(1, 0);
            due.same("steps in state " + state + " still", x.steps(0), steps[state]);
        }
    }

    /** "(by the last of them for echo)" */
    private static void stepsOfTheLastOneForEcho() {
        int[] carriedOut = {1, 2, 3, 0};
        for (int times = 1; times <= 4; times++) {
            CoroutineFrames x = new CoroutineFrames();
            new Code(x).yield(0, 1).yield(0, 1).set(2, 2).yield(0, 1).set(2, 2).set(2, 2).yield(0, 1);
            x.start(0, 0, 1);
            x.resume(0, 0);
            x.echo(0, times);
            due.same("steps after echo of " + times, x.steps(0), carriedOut[times - 1]);
        }
        CoroutineFrames x = new CoroutineFrames();
        new Code(x).set(2, 2).yield(0, 1);
        x.start(0, 0, 1);
        x.resume(0, 0);
        due.same("echo of none", x.echo(0, 0), 0);
        due.same("steps after echo of none", x.steps(0), 2);
    }

    /** "A copy has what it was copied from had." */
    private static void stepsOfACopy() {
        int[] steps = {0, 0, 3, 2, 80};
        for (int state = 0; state < Scene.COUNT; state++) {
            for (int old = 0; old < Scene.COUNT; old++) {
                CoroutineFrames x = Scene.program();
                Scene.bring(x, 1, state);
                Scene.bring(x, 2, old);
                x.copy(1, 2);
                due.same("steps of a copy in state " + state, x.steps(2), steps[state]);
                x.drop(1);
                due.same("steps of the copy still", x.steps(2), steps[state]);
            }
        }
    }

    /** "steps: 0 also after drop." */
    private static void stepsAfterDrop() {
        for (int state = 0; state < Scene.COUNT; state++) {
            for (int co = 0; co < 4; co++) {
                CoroutineFrames x = Scene.program();
                Scene.bring(x, co, state);
                x.drop(co);
                due.same("steps(" + co + ") after drop in state " + state, x.steps(co), 0);
            }
        }
    }
}
