/** A small machine with calls, whose every call has its own registers. */
public final class WindowedCalls {
    public static final int BAD = -1;
    public static final int FULL = -2;

    private static final int SET = 0;
    private static final int ADD = 1;
    private static final int SUB = 2;
    private static final int JUMP = 3;
    private static final int COPY = 4;
    private static final int CALL = 5;
    private static final int RETURN = 6;
    private static final int ZERO = 7;

    private static final int MOST_INSTRUCTIONS = 24;
    private static final int MOST_CALLS = 30;
    private static final int MOST_STEPS = 200;
    private static final int MOST_REGS = 511;
    private static final int REGISTERS = 8;

    // A call shares its lower four registers with the upper four of its caller,
    // so the windows of two neighbouring calls lie four cells apart and overlap.
    private static final int SHARED = 4;
    private static final int CELLS = SHARED * MOST_CALLS + SHARED;

    private final int[] ops = new int[MOST_INSTRUCTIONS];
    private final int[] regsOf = new int[MOST_INSTRUCTIONS];
    private final int[] numbers = new int[MOST_INSTRUCTIONS];
    private final int[] cells = new int[CELLS];
    // Entry k belongs to the call with k calls below it; the bottom call has none, so entry 0 is idle.
    private final int[] returnPositions = new int[MOST_CALLS];

    private int length;
    private int calls;
    private int at;
    private int carriedOut;
    private boolean stopped;

    public WindowedCalls() {
        calls = 1;
    }

    public int emit(int op, int regs, int n) {
        if (op < SET || op > ZERO || regs < 0 || regs > MOST_REGS) {
            return BAD;
        }
        if (length >= MOST_INSTRUCTIONS) {
            return FULL;
        }
        int position = length;
        ops[position] = op;
        regsOf[position] = regs;
        numbers[position] = n;
        length = position + 1;
        return position;
    }

    public int drop() {
        if (length <= 0) {
            return BAD;
        }
        length--;
        return length;
    }

    public void restart() {
        // The cells above the bottom window are cleared by the CALL that comes to need them.
        for (int r = 0; r < REGISTERS; r++) {
            cells[r] = 0;
        }
        calls = 1;
        at = 0;
        carriedOut = 0;
        stopped = false;
    }

    public int run(int n) {
        int limit = n > MOST_STEPS ? MOST_STEPS : n;
        int steps = 0;
        for (int i = 0; i < limit && !stopped; i++) {
            if (canCarryOut()) {
                carryOut();
                steps++;
            } else {
                stopped = true;
            }
        }
        carriedOut += steps;
        return steps;
    }

    public boolean halted() {
        return stopped;
    }

    public int position() {
        return at;
    }

    public int depth() {
        return calls;
    }

    public int register(int r) {
        return isRegister(r) ? cells[windowStart(0) + r] : 0;
    }

    public int below(int d, int r) {
        if (d < 0 || d >= calls || !isRegister(r)) {
            return 0;
        }
        return cells[windowStart(d) + r];
    }

    public boolean put(int r, int v) {
        if (!isRegister(r)) {
            return false;
        }
        cells[windowStart(0) + r] = v;
        return true;
    }

    public int backTo(int d) {
        if (d < 0 || d >= calls - 1) {
            return BAD;
        }
        return returnPositions[calls - 1 - d];
    }

    public int digest() {
        int sum = 0;
        for (int k = 0; k < calls; k++) {
            // A shared register is a register of both calls, so it is counted in each.
            for (int r = 0; r < REGISTERS; r++) {
                sum += (REGISTERS * k + r + 1) * cells[SHARED * k + r];
            }
        }
        return sum;
    }

    public int done() {
        return carriedOut;
    }

    private boolean isRegister(int r) {
        return r >= 0 && r < REGISTERS;
    }

    private int windowStart(int d) {
        return SHARED * (calls - 1 - d);
    }

    private boolean canCarryOut() {
        if (at < 0 || at >= length) {
            return false;
        }
        return ops[at] != CALL || calls < MOST_CALLS;
    }

    // Only run may come here, and only after canCarryOut: that keeps the position and the calls in bounds.
    private void carryOut() {
        int here = at;
        int start = windowStart(0);
        int regs = regsOf[here];
        int a = start + (regs & 7);
        int b = start + ((regs >> 3) & 7);
        int c = start + ((regs >> 6) & 7);
        at = here + 1;
        switch (ops[here]) {
            case SET:
                cells[a] = numbers[here];
                break;
            case ADD:
                cells[a] = cells[b] + cells[c];
                break;
            case SUB:
                cells[a] = cells[b] - cells[c];
                break;
            case JUMP:
                at = numbers[here];
                break;
            case COPY:
                cells[a] = cells[b];
                break;
            case CALL:
                beginCall(here);
                break;
            case RETURN:
                endCall(here);
                break;
            default:
                if (cells[a] == 0) {
                    at = numbers[here];
                }
                break;
        }
    }

    private void beginCall(int here) {
        returnPositions[calls] = here + 1;
        calls++;
        int start = windowStart(0);
        // An earlier call, ended by now, may have left its own values here.
        for (int r = SHARED; r < REGISTERS; r++) {
            cells[start + r] = 0;
        }
        at = numbers[here];
    }

    private void endCall(int here) {
        if (calls > 1) {
            at = returnPositions[calls - 1];
            calls--;
        } else {
            at = here;
            stopped = true;
        }
    }
}
