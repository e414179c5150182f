import java.util.function.Supplier;
import java.util.function.ToIntFunction;

/** A refused call: its answer, and that an object that had it goes on like one that had not. */
final class Refusal {
    private final Due due;

    Refusal(Due due) {
        this.due = due;
    }

    void changesNothing(String call, Supplier<CoroutineFrames> scene, ToIntFunction<CoroutineFrames> refused, int answer) {
        CoroutineFrames x = scene.get();
        due.same(call, refused.applyAsInt(x), answer);
        goOnAlike("after " + call, x, scene.get());
    }

    private void goOnAlike(String when, CoroutineFrames x, CoroutineFrames y) {
        for (int co = 0; co < 4; co++) {
            tellAlike(when, x, y, co);
        }
        for (int co = 0; co < 4; co++) {
            resumeAlike(when, x, y, co, 6);
            due.same(when + ": drop(" + co + ")", x.drop(co), y.drop(co));
        }
        for (int function = 0; function < 3; function++) {
            x.start(1, function, 9);
            y.start(1, function, 9);
            resumeAlike(when + ": function " + function, x, y, 1, 4);
        }
        x.drop(1);
        y.drop(1);
        for (int function = 0; function < 3; function++) {
            for (int i = 0; i < 9; i++) {
                due.same(when + ": emit in " + function, x.emit(function, 0, 0, 0), y.emit(function, 0, 0, 0));
            }
        }
    }

    private void resumeAlike(String when, CoroutineFrames x, CoroutineFrames y, int co, int times) {
        for (int i = 1; i <= times; i++) {
            int value = i % 3;
            due.same(when + ": resume(" + co + ", " + value + ")", x.resume(co, value), y.resume(co, value));
            tellAlike(when, x, y, co);
        }
    }

    private void tellAlike(String when, CoroutineFrames x, CoroutineFrames y, int co) {
        due.stands(when, x, co, y.state(co), y.value(co), y.depth(co), y.steps(co));
    }
}
