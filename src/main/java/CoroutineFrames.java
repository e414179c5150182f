/** Coroutines over a small program, each a chain of frames that can wait in the middle of its work. */
public final class CoroutineFrames {
    public static final int BAD_NUMBER = -1;
    public static final int FULL = -2;
    public static final int LOCKED = -3;
    public static final int NOT_READY = -4;
    public static final int NONE = 0;
    public static final int READY = 1;
    public static final int WAITING = 2;
    public static final int DONE = 3;
    public static final int FAILED = 4;

    // Stands only inside a call, from the moment a coroutine goes on until it waits, is done or fails.
    private static final int RUNNING = 5;

    private static final int SET = 0;
    private static final int ADD = 1;
    private static final int SUB = 2;
    private static final int JUMP = 3;
    private static final int JPOS = 4;
    private static final int YIELD = 5;
    private static final int CALL = 6;
    private static final int RETURN = 7;

    private static final int FUNCTIONS = 3;
    private static final int FUNCTION_LENGTH = 8;
    private static final int COROUTINES = 4;
    private static final int CHAIN_LENGTH = 4;
    private static final int REGISTERS = 4;
    private static final int REGISTER_MASK = 3;
    private static final int SECOND_REGISTER_SHIFT = 2;
    private static final int STEP_LIMIT = 80;
    private static final int ECHO_LIMIT = 20;

    private static final int ALL_INSTRUCTIONS = 24;
    private static final int ALL_FRAMES = 16;
    private static final int ALL_REGISTERS = 64;

    private final int[] lengths = new int[FUNCTIONS];
    private final int[] ops = new int[ALL_INSTRUCTIONS];
    private final int[] firsts = new int[ALL_INSTRUCTIONS];
    private final int[] seconds = new int[ALL_INSTRUCTIONS];
    private final int[] numbers = new int[ALL_INSTRUCTIONS];

    private final int[] states = new int[COROUTINES];
    private final int[] values = new int[COROUTINES];
    private final int[] depths = new int[COROUTINES];
    private final int[] stepCounts = new int[COROUTINES];

    // A frame that has called, or that waits, stays at its CALL or YIELD: that instruction still
    // names the register for what comes back, so nothing else need be kept for it.
    private final int[] functions = new int[ALL_FRAMES];
    private final int[] places = new int[ALL_FRAMES];
    private final int[] registers = new int[ALL_REGISTERS];

    public CoroutineFrames() {
    }

    public int emit(int function, int op, int regs, int c) {
        if (!isFunction(function) || op < SET || op > RETURN) {
            return BAD_NUMBER;
        }
        if (isLocked()) {
            return LOCKED;
        }
        int place = lengths[function];
        if (place >= FUNCTION_LENGTH) {
            return FULL;
        }
        int at = function * FUNCTION_LENGTH + place;
        ops[at] = op;
        firsts[at] = regs & REGISTER_MASK;
        seconds[at] = (regs >> SECOND_REGISTER_SHIFT) & REGISTER_MASK;
        numbers[at] = c;
        lengths[function] = place + 1;
        return place;
    }

    public int start(int co, int function, int argument) {
        if (!isCoroutine(co) || !isFunction(function)) {
            return BAD_NUMBER;
        }
        settle(co, READY, 0);
        stepCounts[co] = 0;
        addFrame(co, function, argument);
        return 0;
    }

    public int resume(int co, int value) {
        if (!isCoroutine(co)) {
            return BAD_NUMBER;
        }
        if (states[co] != READY && states[co] != WAITING) {
            return NOT_READY;
        }
        takeIn(co, value);
        run(co);
        return states[co];
    }

    public int echo(int co, int n) {
        if (!isCoroutine(co)) {
            return BAD_NUMBER;
        }
        if (states[co] != WAITING) {
            return NOT_READY;
        }
        int sum = 0;
        for (int i = 0; i < n && i < ECHO_LIMIT && states[co] == WAITING; i++) {
            takeIn(co, values[co]);
            run(co);
            sum += values[co];
        }
        return sum;
    }

    public int copy(int from, int to) {
        if (!isCoroutine(from) || !isCoroutine(to)) {
            return BAD_NUMBER;
        }
        states[to] = states[from];
        values[to] = values[from];
        depths[to] = depths[from];
        stepCounts[to] = stepCounts[from];
        copyFrames(from, to);
        return states[to];
    }

    public int drop(int co) {
        if (!isCoroutine(co)) {
            return BAD_NUMBER;
        }
        int old = states[co];
        settle(co, NONE, 0);
        stepCounts[co] = 0;
        return old;
    }

    public int state(int co) {
        return isCoroutine(co) ? states[co] : BAD_NUMBER;
    }

    public int value(int co) {
        return isCoroutine(co) ? values[co] : BAD_NUMBER;
    }

    public int depth(int co) {
        return isCoroutine(co) ? depths[co] : BAD_NUMBER;
    }

    public boolean alike(int a, int b) {
        if (!isCoroutine(a) || !isCoroutine(b)) {
            return false;
        }
        return states[a] == states[b] && values[a] == values[b];
    }

    public int steps(int co) {
        return isCoroutine(co) ? stepCounts[co] : BAD_NUMBER;
    }

    private static boolean isCoroutine(int co) {
        return co >= 0 && co < COROUTINES;
    }

    private static boolean isFunction(int function) {
        return function >= 0 && function < FUNCTIONS;
    }

    // The program may not change under a coroutine that could still carry it out.
    private boolean isLocked() {
        for (int co = 0; co < COROUTINES; co++) {
            if (states[co] != NONE) {
                return true;
            }
        }
        return false;
    }

    // Leaves no frame standing: start adds its one frame afterwards.
    private void settle(int co, int state, int value) {
        states[co] = state;
        values[co] = value;
        depths[co] = 0;
    }

    private void addFrame(int co, int function, int argument) {
        int frame = co * CHAIN_LENGTH + depths[co];
        functions[frame] = function;
        places[frame] = 0;
        int base = frame * REGISTERS;
        registers[base] = argument;
        for (int i = 1; i < REGISTERS; i++) {
            registers[base + i] = 0;
        }
        depths[co]++;
    }

    private void copyFrames(int from, int to) {
        int fromFrame = from * CHAIN_LENGTH;
        int toFrame = to * CHAIN_LENGTH;
        for (int i = 0; i < CHAIN_LENGTH; i++) {
            functions[toFrame + i] = functions[fromFrame + i];
            places[toFrame + i] = places[fromFrame + i];
        }
        int fromBase = fromFrame * REGISTERS;
        int toBase = toFrame * REGISTERS;
        for (int i = 0; i < CHAIN_LENGTH * REGISTERS; i++) {
            registers[toBase + i] = registers[fromBase + i];
        }
    }

    private int lastFrame(int co) {
        return co * CHAIN_LENGTH + depths[co] - 1;
    }

    private int instructionOf(int frame) {
        return functions[frame] * FUNCTION_LENGTH + places[frame];
    }

    // Only a waiting coroutine looks at the value: its YIELD says where it goes.
    private void takeIn(int co, int value) {
        if (states[co] == WAITING) {
            int frame = lastFrame(co);
            int at = instructionOf(frame);
            registers[frame * REGISTERS + seconds[at]] = value;
            places[frame]++;
        }
    }

    // Returning at the end of the instructions is no instruction, so it comes after the
    // last one that the limit allows as well: such a coroutine may still be done.
    private void run(int co) {
        states[co] = RUNNING;
        stepCounts[co] = 0;
        returnAtEnd(co);
        for (int i = 0; i < STEP_LIMIT && states[co] == RUNNING; i++) {
            stepCounts[co]++;
            carryOut(co);
            returnAtEnd(co);
        }
        if (states[co] == RUNNING) {
            settle(co, FAILED, 0);
        }
    }

    // One return may bring the caller to its own end, and so on up the chain.
    private void returnAtEnd(int co) {
        for (int i = 0; i < CHAIN_LENGTH && states[co] == RUNNING; i++) {
            int frame = lastFrame(co);
            if (places[frame] >= 0 && places[frame] < lengths[functions[frame]]) {
                return;
            }
            returnFrom(co, 0);
        }
    }

    private void carryOut(int co) {
        int frame = lastFrame(co);
        int at = instructionOf(frame);
        int a = frame * REGISTERS + firsts[at];
        int b = frame * REGISTERS + seconds[at];
        int next = places[frame] + 1;
        switch (ops[at]) {
            case SET:
                registers[a] = numbers[at];
                places[frame] = next;
                break;
            case ADD:
                registers[a] += registers[b];
                places[frame] = next;
                break;
            case SUB:
                registers[a] -= registers[b];
                places[frame] = next;
                break;
            case JUMP:
                places[frame] = numbers[at];
                break;
            case JPOS:
                places[frame] = registers[a] > 0 ? numbers[at] : next;
                break;
            case YIELD:
                states[co] = WAITING;
                values[co] = registers[a];
                break;
            case CALL:
                call(co, numbers[at], registers[a]);
                break;
            default:
                returnFrom(co, registers[a]);
                break;
        }
    }

    private void call(int co, int c, int argument) {
        if (depths[co] >= CHAIN_LENGTH) {
            settle(co, FAILED, 0);
            return;
        }
        int rest = c % FUNCTIONS;
        int function = rest < 0 ? rest + FUNCTIONS : rest;
        addFrame(co, function, argument);
    }

    private void returnFrom(int co, int value) {
        if (depths[co] <= 1) {
            settle(co, DONE, value);
            return;
        }
        depths[co]--;
        int caller = lastFrame(co);
        int at = instructionOf(caller);
        registers[caller * REGISTERS + firsts[at]] = value;
        places[caller]++;
    }
}
