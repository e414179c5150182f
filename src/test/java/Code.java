/** Emits a program by the names of its instructions. */
final class Code {
    static final int[] BAD_FUNCTIONS = {-1, 3, Integer.MIN_VALUE, Integer.MAX_VALUE};
    static final int[] BAD_COROUTINES = {-1, 4, Integer.MIN_VALUE, Integer.MAX_VALUE};

    private final CoroutineFrames x;
    private int function = 0;

    Code(CoroutineFrames x) {
        this.x = x;
    }

    Code in(int newFunction) {
        function = newFunction;
        return this;
    }

    Code set(int a, int c) {
        return emit(0, a, 0, c);
    }

    Code add(int a, int b) {
        return emit(1, a, b, 0);
    }

    Code sub(int a, int b) {
        return emit(2, a, b, 0);
    }

    Code jump(int c) {
        return emit(3, 0, 0, c);
    }

    Code jpos(int a, int c) {
        return emit(4, a, 0, c);
    }

    Code yield(int a, int b) {
        return emit(5, a, b, 0);
    }

    Code call(int a, int f) {
        return emit(6, a, 0, f);
    }

    Code ret(int a) {
        return emit(7, a, 0, 0);
    }

    private Code emit(int op, int a, int b, int c) {
        int answer = x.emit(function, op, a | b << 2, c);
        if (answer < 0) {
            throw new IllegalStateException("the test's program was refused: " + answer);
        }
        return this;
    }
}
