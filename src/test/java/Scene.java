/** Objects for the boundary tests: a program, and coroutines that stand in every state. */
final class Scene {
    /** As many as there are states: over all of them each coroutine is once in each state. */
    static final int COUNT = 5;

    private Scene() {
    }

    /** Function 0 is full; 1 and 2 have room. */
    static CoroutineFrames program() {
        CoroutineFrames x = new CoroutineFrames();
        new Code(x)
                .in(0).yield(0, 1).yield(1, 2).jpos(2, 4).jump(5).call(3, 0).add(3, 1).add(3, 2).ret(3)
                .in(1).yield(0, 1).jpos(1, 3).ret(1).jump(3)
                .in(2).add(0, 0).yield(0, 3).add(0, 3);
        return x;
    }

    static int stateOf(int scene, int co) {
        return (scene + co) % COUNT;
    }

    static CoroutineFrames withAllStates(int scene) {
        CoroutineFrames x = program();
        for (int co = 0; co < 4; co++) {
            bring(x, co, stateOf(scene, co));
        }
        return x;
    }

    /** Brings a coroutine from whatever it was to the state, by the program above. */
    static void bring(CoroutineFrames x, int co, int state) {
        if (state == CoroutineFrames.NONE) {
            x.drop(co);
        } else if (state == CoroutineFrames.READY) {
            x.start(co, 0, 11 + co);
        } else if (state == CoroutineFrames.WAITING) {
            x.start(co, 0, 21 + co);
            for (int value = 1; value <= 5; value++) {
                x.resume(co, value * 10 + co);
            }
        } else {
            x.start(co, 1, 31 + co);
            x.resume(co, 0);
            x.resume(co, state == CoroutineFrames.DONE ? -5 - co : 5);
        }
    }
}
