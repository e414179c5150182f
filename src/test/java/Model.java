import java.util.ArrayList;
import java.util.List;

/** The document's words once more, with objects and lists, for ModelTest to compare with. */
final class Model {
    private record Instruction(int op, int a, int b, int c) {
    }

    private static final class Frame {
        final int function;
        int place = 0;
        int awaiting = 0;
        final int[] r = new int[4];

        Frame(int function, int argument) {
            this.function = function;
            r[0] = argument;
        }

        Frame twin() {
            Frame frame = new Frame(function, 0);
            frame.place = place;
            frame.awaiting = awaiting;
            System.arraycopy(r, 0, frame.r, 0, 4);
            return frame;
        }
    }

    private static final class Coroutine {
        int state = 0;
        int value = 0;
        int steps = 0;
        final List<Frame> chain = new ArrayList<>();

        Frame last() {
            return chain.get(chain.size() - 1);
        }

        void stop(int newState, int newValue) {
            state = newState;
            value = newValue;
            if (newState != 2) {
                chain.clear();
            }
        }
    }

    private final List<List<Instruction>> program = new ArrayList<>();
    private final Coroutine[] coroutines = new Coroutine[4];

    Model() {
        for (int i = 0; i < 3; i++) {
            program.add(new ArrayList<>());
        }
        for (int i = 0; i < 4; i++) {
            coroutines[i] = new Coroutine();
        }
    }

    private static boolean bad(int number, int count) {
        return number < 0 || number >= count;
    }

    int emit(int function, int op, int regs, int c) {
        if (bad(function, 3) || bad(op, 8)) {
            return -1;
        }
        for (Coroutine coroutine : coroutines) {
            if (coroutine.state != 0) {
                return -3;
            }
        }
        List<Instruction> instructions = program.get(function);
        if (instructions.size() == 8) {
            return -2;
        }
        instructions.add(new Instruction(op, regs & 3, regs >>> 2 & 3, c));
        return instructions.size() - 1;
    }

    int start(int co, int function, int argument) {
        if (bad(co, 4) || bad(function, 3)) {
            return -1;
        }
        coroutines[co] = new Coroutine();
        coroutines[co].state = 1;
        coroutines[co].chain.add(new Frame(function, argument));
        return 0;
    }

    int resume(int co, int value) {
        if (bad(co, 4)) {
            return -1;
        }
        Coroutine k = coroutines[co];
        if (k.state != 1 && k.state != 2) {
            return -4;
        }
        if (k.state == 2) {
            k.last().r[k.last().awaiting] = value;
        }
        k.steps = 0;
        boolean goesOn = true;
        while (goesOn) {
            goesOn = turn(k);
        }
        return k.state;
    }

    /** One instruction, or one return at the end of the instructions. */
    private boolean turn(Coroutine k) {
        Frame f = k.last();
        List<Instruction> instructions = program.get(f.function);
        if (bad(f.place, instructions.size())) {
            return handBack(k, 0);
        }
        if (k.steps == 80) {
            k.stop(4, 0);
            return false;
        }
        k.steps++;
        Instruction i = instructions.get(f.place++);
        if (i.op == 0) {
            f.r[i.a] = i.c;
        } else if (i.op == 1) {
            f.r[i.a] = f.r[i.a] + f.r[i.b];
        } else if (i.op == 2) {
            f.r[i.a] = f.r[i.a] - f.r[i.b];
        } else if (i.op == 3 || i.op == 4 && f.r[i.a] > 0) {
            f.place = i.c;
        } else if (i.op == 5) {
            f.awaiting = i.b;
            k.stop(2, f.r[i.a]);
            return false;
        } else if (i.op == 6) {
            if (k.chain.size() == 4) {
                k.stop(4, 0);
                return false;
            }
            f.awaiting = i.a;
            k.chain.add(new Frame(Math.floorMod(i.c, 3), f.r[i.a]));
        } else if (i.op == 7) {
            return handBack(k, f.r[i.a]);
        }
        return true;
    }

    private static boolean handBack(Coroutine k, int value) {
        k.chain.remove(k.chain.size() - 1);
        if (k.chain.isEmpty()) {
            k.stop(3, value);
            return false;
        }
        k.last().r[k.last().awaiting] = value;
        return true;
    }

    int echo(int co, int n) {
        if (bad(co, 4)) {
            return -1;
        }
        Coroutine k = coroutines[co];
        if (k.state != 2) {
            return -4;
        }
        int sum = 0;
        for (int left = Math.max(0, Math.min(20, n)); left > 0 && k.state == 2; left--) {
            resume(co, k.value);
            sum += k.value;
        }
        return sum;
    }

    int copy(int from, int to) {
        if (bad(from, 4) || bad(to, 4)) {
            return -1;
        }
        Coroutine twin = new Coroutine();
        twin.state = coroutines[from].state;
        twin.value = coroutines[from].value;
        twin.steps = coroutines[from].steps;
        for (Frame frame : coroutines[from].chain) {
            twin.chain.add(frame.twin());
        }
        coroutines[to] = twin;
        return twin.state;
    }

    int drop(int co) {
        if (bad(co, 4)) {
            return -1;
        }
        int old = coroutines[co].state;
        coroutines[co] = new Coroutine();
        return old;
    }

    int state(int co) {
        return bad(co, 4) ? -1 : coroutines[co].state;
    }

    int value(int co) {
        return bad(co, 4) ? -1 : coroutines[co].value;
    }

    int depth(int co) {
        return bad(co, 4) ? -1 : coroutines[co].chain.size();
    }

    boolean alike(int a, int b) {
        return !bad(a, 4) && !bad(b, 4) && state(a) == state(b) && value(a) == value(b);
    }

    int steps(int co) {
        return bad(co, 4) ? -1 : coroutines[co].steps;
    }
}
