/**
 * One test for each sentence of the document that names a boundary case, at the edge and on both sides of it.
 * A wrong answer is printed with the sentence that it breaks.
 */
public final class SentencesTest {
    private static final int SET = 0;
    private static final int ADD = 1;
    private static final int SUB = 2;
    private static final int JUMP = 3;
    private static final int COPY = 4;
    private static final int CALL = 5;
    private static final int RETURN = 6;
    private static final int ZERO = 7;
    private static final int BAD = -1;
    private static final int FULL = -2;
    private static final int MIN = Integer.MIN_VALUE;
    private static final int MAX = Integer.MAX_VALUE;
    private static final int[] NO_REGISTERS = {-1, -2, -4, -8, 8, 9, 12, 16, 124, MIN, MIN + 1, MAX, MAX - 1};

    private static int wrong = 0;
    private static String sentence = "";

    private static void sentence(String quote, Runnable test) {
        sentence = quote;
        try {
            test.run();
        } catch (RuntimeException e) {
            wrong++;
            System.out.println("[" + sentence + "] threw " + e);
        }
    }

    private static void due(String what, long want, long got) {
        if (want != got) {
            wrong++;
            System.out.println("[" + sentence + "] " + what + " answered " + got + ", due is " + want);
        }
    }

    private static void due(String what, boolean want, boolean got) {
        due(what, want ? 1 : 0, got ? 1 : 0);
    }

    private static void dueState(String what, String want, String got) {
        if (!want.equals(got)) {
            wrong++;
            System.out.println("[" + sentence + "] " + what + " left " + got + ", due is " + want);
        }
    }

    private static int regs(int a, int b, int c) {
        return a + 8 * b + 64 * c;
    }

    /** A new machine with a program, each instruction given as op, regs and n. */
    private static WindowedCalls machine(int... program) {
        WindowedCalls x = new WindowedCalls();
        for (int i = 0; i < program.length; i += 3) {
            due("emit", i / 3, x.emit(program[i], program[i + 1], program[i + 2]));
        }
        return x;
    }

    /** A new machine with that many instructions, of which the first is told and the others SET register 0. */
    private static WindowedCalls beginningWith(int length, int op, int regs, int n) {
        WindowedCalls x = machine(op, regs, n);
        for (int i = 1; i < length; i++) {
            due("emit", i, x.emit(SET, 0, 0));
        }
        return x;
    }

    /** A machine at position 0 that has that many calls (1 .. 30), all begun by the CALL 0 that is its program. */
    private static WindowedCalls deep(int depth) {
        WindowedCalls x = machine(CALL, 0, 0);
        due("run to depth " + depth, depth - 1, x.run(depth - 1));
        return x;
    }

    /** As deep, but register r of the call with k calls below it holds filled(k, r). */
    private static WindowedCalls deepAndFilled(int depth) {
        WindowedCalls x = machine(CALL, 0, 0);
        for (int k = 0; k < depth; k++) {
            if (k > 0) {
                due("run to depth " + (k + 1), 1, x.run(1));
            }
            for (int r = k == 0 ? 0 : 4; r < 8; r++) {
                due("put " + r, true, x.put(r, filled(k, r)));
            }
        }
        return x;
    }

    private static int filled(int k, int r) {
        return 1000 + 4 * k + r;
    }

    /** Puts another instruction in the place of a program's only one. */
    private static void replace(WindowedCalls x, int op, int regs, int n) {
        due("drop of the only instruction", 0, x.drop());
        due("emit of another", 0, x.emit(op, regs, n));
    }

    private static void registersAre(String what, WindowedCalls x, int d, int... want) {
        for (int r = 0; r < 8; r++) {
            due(what + ": below(" + d + ", " + r + ")", want[r], x.below(d, r));
        }
    }

    private static void isAt(String what, WindowedCalls x, boolean halted, int position, int depth, int done) {
        due(what + ": halted", halted, x.halted());
        due(what + ": position", position, x.position());
        due(what + ": depth", depth, x.depth());
        due(what + ": done", done, x.done());
    }

    /** All that can be seen of a machine with few calls (an object is used for 512 calls at most). */
    private static String state(WindowedCalls x) {
        StringBuilder s = new StringBuilder();
        s.append(x.halted() ? "halted" : "going").append(" at ").append(x.position());
        s.append(" done ").append(x.done()).append(" digest ").append(x.digest());
        for (int d = 0; d < x.depth(); d++) {
            s.append(" | back to ").append(x.backTo(d)).append(':');
            for (int r = 0; r < 8; r++) {
                s.append(' ').append(x.below(d, r));
            }
        }
        return s.toString();
    }

    // Terms

    private static void programOfAtMost24() {
        WindowedCalls x = new WindowedCalls();
        for (int i = 0; i < 24; i++) {
            due("emit number " + (i + 1), i, x.emit(ADD, regs(0, 0, 1), 0));
        }
        due("emit number 25", FULL, x.emit(SET, 0, 99));
        due("emit number 25 again", FULL, x.emit(RETURN, 0, 0));
        x.put(1, 1);
        due("run of 24 instructions", 24, x.run(200));
        due("all 24 were carried out", 24, x.register(0));
        isAt("behind the 24th", x, true, 24, 1, 24);
        due("drop of the 24th", 23, x.drop());
        x.restart();
        x.put(1, 1);
        due("run of 23 instructions", 23, x.run(200));
        due("23 were carried out", 23, x.register(0));
        due("emit number 24 once more", 23, x.emit(SET, 0, 7));
        due("emit number 25 once more", FULL, x.emit(SET, 0, 99));
    }

    private static void ownRegistersAreZeroAtFirst() {
        for (int depth : new int[] {1, 2, 3, 28, 29}) {
            WindowedCalls x = deepAndFilled(depth);
            due("run of CALL", 1, x.run(1));
            int k = depth - 1;
            registersAre("call above " + depth, x, 0,
                filled(k, 4), filled(k, 5), filled(k, 6), filled(k, 7), 0, 0, 0, 0);
        }
    }

    private static void ownRegistersAreZeroInALaterCallToo() {
        WindowedCalls x = machine(CALL, 0, 2, CALL, 0, 2, RETURN, 0, 0);
        due("run into the first call", 1, x.run(1));
        for (int r = 0; r < 8; r++) {
            x.put(r, 50 + r);
        }
        due("run out and into the second call", 2, x.run(2));
        registersAre("second call", x, 0, 50, 51, 52, 53, 0, 0, 0, 0);
        WindowedCalls y = deepAndFilled(30);
        y.restart();
        due("run to 30 calls after restart", 29, y.run(29));
        for (int d = 0; d < 30; d++) {
            due("register 4 after restart, " + d + " below", 0, y.below(d, 4));
            due("register 7 after restart, " + d + " below", 0, y.below(d, 7));
        }
    }

    private static void write(WindowedCalls x, int way, int r) {
        int[] regs = {0, r, regs(r, 7, 6), regs(r, 7, 6), regs(r, 7, 6)};
        int[] ops = {0, SET, ADD, SUB, COPY};
        if (way == 0) {
            due("put", true, x.put(r, 5));
        } else {
            replace(x, ops[way], regs[way], 5);
            due("run of op " + ops[way], 1, x.run(1));
        }
    }

    private static void whatIsWrittenIsInTheOther() {
        for (int depth : new int[] {2, 3, 4, 30}) {
            for (int way = 0; way < 5; way++) {
                for (int r = 0; r < 8; r++) {
                    WindowedCalls x = deep(depth);
                    x.put(7, 5);
                    write(x, way, r);
                    int[] own = {0, 0, 0, 0, 0, 0, 0, 5};
                    own[r] = 5;
                    String what = "written into " + r + " in way " + way + " at depth " + depth;
                    registersAre(what, x, 0, own);
                    registersAre(what, x, 1, 0, 0, 0, 0, own[0], own[1], own[2], own[3]);
                    if (depth > 2) {
                        registersAre(what, x, 2, 0, 0, 0, 0, 0, 0, 0, 0);
                    }
                }
            }
        }
    }

    private static void whatIsWrittenStaysBehindTheCall() {
        WindowedCalls x = machine(CALL, 0, 3, SET, 4, 8, CALL, 0, 4, SET, 0, 6, RETURN, 0, 0);
        x.put(4, 5);
        due("run of CALL", 1, x.run(1));
        due("handed to the call", 5, x.register(0));
        due("run of SET in the call", 1, x.run(1));
        due("written into the caller's", 6, x.below(1, 4));
        due("run of RETURN", 1, x.run(1));
        due("found by the caller", 6, x.register(4));
        due("run of SET in the caller", 1, x.run(1));
        due("run of the second CALL", 1, x.run(1));
        due("handed to the second call", 8, x.register(0));
        due("still the caller's", 8, x.below(1, 4));
    }

    private static void arithmetic(int op, int b, int c, int want) {
        WindowedCalls x = machine(op, regs(0, 1, 2), 0, ZERO, 0, 5);
        x.put(1, b);
        x.put(2, c);
        String what = (op == ADD ? "ADD of " : "SUB of ") + b + " and " + c;
        due("run of " + what, 1, x.run(1));
        due(what, want, x.register(0));
        due("run of ZERO", 1, x.run(1));
        due("ZERO after " + what, want == 0 ? 5 : 2, x.position());
    }

    private static void arithmeticWraps() {
        arithmetic(ADD, MAX, 0, MAX);
        arithmetic(ADD, MAX - 1, 1, MAX);
        arithmetic(ADD, MAX, 1, MIN);
        arithmetic(ADD, MAX, 2, MIN + 1);
        arithmetic(ADD, MAX, MAX, -2);
        arithmetic(ADD, MIN, 0, MIN);
        arithmetic(ADD, MIN + 1, -1, MIN);
        arithmetic(ADD, MIN, -1, MAX);
        arithmetic(ADD, MIN, MIN, 0);
        arithmetic(ADD, MIN, MAX, -1);
        arithmetic(SUB, MIN, 0, MIN);
        arithmetic(SUB, MIN + 1, 1, MIN);
        arithmetic(SUB, MIN, 1, MAX);
        arithmetic(SUB, MIN, 2, MAX - 1);
        arithmetic(SUB, MAX, -1, MIN);
        arithmetic(SUB, MAX - 1, -1, MAX);
        arithmetic(SUB, 0, MIN, MIN);
        arithmetic(SUB, -1, MIN, MAX);
        arithmetic(SUB, MAX, MIN, -1);
        arithmetic(SUB, MIN, MIN, 0);
        arithmetic(SUB, MIN, MAX, 1);
    }

    private static void positionNotInTheProgramHalts() {
        for (int length : new int[] {1, 2, 3, 23, 24}) {
            for (int n : new int[] {MIN, -2, -1, 0, length - 1, length, length + 1, MAX}) {
                for (int op : new int[] {JUMP, ZERO, CALL}) {
                    String what = "op " + op + " to " + n + " in a program of " + length;
                    boolean inside = n >= 0 && n < length;
                    WindowedCalls x = beginningWith(length, op, 0, n);
                    due(what, 1, x.run(1));
                    due(what + ": position", n, x.position());
                    due(what + ": halted before it is looked at", false, x.halted());
                    due(what + ": run there", inside ? 1 : 0, x.run(1));
                    due(what + ": halted", !inside, x.halted());
                }
            }
        }
    }

    private static void nextPositionNotInTheProgramHalts() {
        WindowedCalls empty = new WindowedCalls();
        due("run of an empty program", 0, empty.run(1));
        isAt("empty program", empty, true, 0, 1, 0);
        for (int op : new int[] {SET, ADD, SUB, COPY, ZERO}) {
            WindowedCalls x = machine(op, 0, 1);
            x.put(0, 1);
            due("run of the last instruction", 1, x.run(1));
            isAt("behind op " + op, x, false, 1, 1, 1);
            due("run behind the program", 0, x.run(1));
            isAt("behind op " + op, x, true, 1, 1, 1);
        }
    }

    private static void returnToAPositionNotInTheProgramHalts() {
        WindowedCalls x = machine(JUMP, 0, 2, RETURN, 0, 0, CALL, 0, 1);
        due("run of JUMP, CALL and RETURN", 3, x.run(3));
        isAt("behind the last CALL", x, false, 3, 1, 3);
        due("run behind the program", 0, x.run(1));
        isAt("behind the last CALL", x, true, 3, 1, 3);
        WindowedCalls y = machine(JUMP, 0, 2, RETURN, 0, 0, CALL, 0, 1, SET, 0, 4);
        due("run of four instructions", 4, y.run(4));
        due("the one behind CALL was carried out", 4, y.register(0));
        isAt("behind SET", y, false, 4, 1, 4);
    }

    private static void callIsDoneUntilThereAre30() {
        for (int depth : new int[] {28, 29, 30}) {
            WindowedCalls x = deepAndFilled(depth);
            boolean done = depth < 30;
            due("run of CALL at depth " + depth, done ? 1 : 0, x.run(1));
            isAt("CALL at depth " + depth, x, !done, 0, done ? depth + 1 : 30, done ? depth : 29);
        }
    }

    private static void callThatIsNotDoneChangesNothing() {
        WindowedCalls x = deepAndFilled(30);
        replace(x, JUMP, 0, 2);
        due("emit", 1, x.emit(SET, 0, 1));
        due("emit", 2, x.emit(CALL, 0, 1));
        due("run of JUMP", 1, x.run(1));
        int digest = x.digest();
        due("run of CALL at 30 calls", 0, x.run(1));
        isAt("CALL at 30 calls", x, true, 2, 30, 30);
        due("digest", digest, x.digest());
        due("backTo of the present call", 1, x.backTo(0));
        for (int r = 0; r < 8; r++) {
            due("register " + r, filled(29, r), x.register(r));
            due("register " + r + " of the caller", filled(28, r), x.below(1, r));
        }
    }

    private static void onlyCallHaltsAt30Calls() {
        for (int op : new int[] {SET, ADD, SUB, JUMP, COPY, RETURN, ZERO}) {
            WindowedCalls x = deep(30);
            replace(x, op, 0, 0);
            due("run of op " + op + " at 30 calls", 1, x.run(1));
            due("halted by op " + op, false, x.halted());
        }
        WindowedCalls y = deep(30);
        replace(y, RETURN, 0, 0);
        due("emit", 1, y.emit(CALL, 0, 1));
        due("run of RETURN and the CALL that has room again", 2, y.run(3));
        isAt("again at 30 calls", y, true, 1, 30, 31);
        due("backTo of the later call", 2, y.backTo(0));
    }

    private static void ownRegistersAreGoneWhenACallEnds() {
        for (int depth : new int[] {2, 3, 30}) {
            WindowedCalls x = deepAndFilled(depth);
            replace(x, RETURN, 0, 0);
            due("emit", 1, x.emit(CALL, 0, 2));
            due("run of RETURN", 1, x.run(1));
            int k = depth - 2;
            for (int r = 0; r < 8; r++) {
                due("the caller's " + r + " stays", filled(k, r), x.register(r));
                due("nothing above, register " + r, 0, x.below(-1, r));
            }
            due("digest without the ended call", digestOfFilled(depth - 1), x.digest());
            due("run of a later CALL", 1, x.run(1));
            registersAre("later call", x, 0,
                filled(k, 4), filled(k, 5), filled(k, 6), filled(k, 7), 0, 0, 0, 0);
        }
    }

    private static int digestOfFilled(int depth) {
        int sum = 0;
        for (int k = 0; k < depth; k++) {
            for (int r = 0; r < 8; r++) {
                sum += (8 * k + r + 1) * filled(k, r);
            }
        }
        return sum;
    }

    private static void bottomCallKeepsItsRegistersWhenHalted() {
        WindowedCalls x = deepAndFilled(1);
        replace(x, RETURN, 0, 0);
        due("run of the bottom RETURN", 1, x.run(1));
        for (int r = 0; r < 8; r++) {
            due("register " + r, filled(0, r), x.register(r));
        }
        due("digest", digestOfFilled(1), x.digest());
    }

    // Promise 1

    private static void newObject() {
        WindowedCalls x = new WindowedCalls();
        dueState("a new object", "going at 0 done 0 digest 0 | back to -1: 0 0 0 0 0 0 0 0", state(x));
        due("depth", 1, x.depth());
        due("drop of the empty program", BAD, x.drop());
        due("run(0)", 0, x.run(0));
        due("halted by run(0)", false, x.halted());
        due("first emit", 0, x.emit(SET, 0, 9));
        due("run of it", 1, x.run(1));
        due("register", 9, x.register(0));
        WindowedCalls y = new WindowedCalls();
        due("run of the empty program", 0, y.run(1));
        isAt("empty program", y, true, 0, 1, 0);
    }

    // Promise 2

    private static WindowedCalls programOf(int length) {
        WindowedCalls x = new WindowedCalls();
        for (int i = 0; i < length; i++) {
            due("emit", i, x.emit(SET, 0, i));
        }
        return x;
    }

    private static void emitBadOrFullInThisOrder() {
        for (int length : new int[] {0, 1, 22, 23, 24}) {
            String where = " in a program of " + length;
            WindowedCalls x = programOf(length);
            for (int op : new int[] {MIN, -8, -2, -1, 8, 9, 16, MAX}) {
                for (int regs : new int[] {MIN, -1, 0, 511, 512, MAX}) {
                    due("emit of op " + op + " and regs " + regs + where, BAD, x.emit(op, regs, 0));
                }
            }
            for (int op = 0; op < 8; op++) {
                for (int regs : new int[] {MIN, -512, -2, -1, 512, 513, 1024, MAX}) {
                    due("emit of op " + op + " and regs " + regs + where, BAD, x.emit(op, regs, 0));
                }
            }
            due("nothing was appended" + where, length == 0 ? BAD : length - 1, x.drop());
        }
    }

    private static void emitTakesTheEdges() {
        for (int length : new int[] {0, 1, 22, 23, 24}) {
            WindowedCalls x = programOf(length);
            for (int op = 0; op < 8; op++) {
                for (int regs : new int[] {0, 1, 510, 511}) {
                    String what = "emit of op " + op + " and regs " + regs + " in a program of " + length;
                    due(what, length < 24 ? length : FULL, x.emit(op, regs, MIN));
                    if (length < 24) {
                        due("drop", length, x.drop());
                    }
                }
            }
        }
    }

    private static String stateAfter(int op, int regs, int n) {
        WindowedCalls x = machine(CALL, 0, 1, op, regs, n);
        due("run of CALL", 1, x.run(1));
        for (int r = 0; r < 8; r++) {
            x.put(r, r % 3 == 0 ? 0 : 10 * r + 1);
        }
        due("run of op " + op, 1, x.run(1));
        return state(x);
    }

    private static void numbersNotUsedDoNotMatter() {
        int[] used = {regs(7, 0, 0), 511, 511, 0, regs(7, 7, 0), 0, 0, regs(7, 0, 0)};
        for (int op = 0; op < 8; op++) {
            boolean usesN = op == SET || op == JUMP || op == CALL || op == ZERO;
            for (int n : new int[] {MIN, -1, 0, 1, 24, MAX}) {
                for (int regs = 0; regs < 512; regs++) {
                    dueState("op " + op + " with regs " + regs + " and n " + n,
                        stateAfter(op, regs & used[op], usesN ? n : 0), stateAfter(op, regs, n));
                }
            }
        }
    }

    private static void numbersUsedMatter() {
        due("SET a n", 37, afterOne(SET, regs(6, 1, 2), 37).register(6));
        due("ADD a b c", 33, afterOne(ADD, regs(6, 1, 2), 37).register(6));
        due("SUB a b c", -11, afterOne(SUB, regs(6, 1, 2), 37).register(6));
        due("JUMP n", 37, afterOne(JUMP, regs(6, 1, 2), 37).position());
        due("COPY a b", 11, afterOne(COPY, regs(6, 1, 2), 37).register(6));
        due("CALL n", 37, afterOne(CALL, regs(6, 1, 2), 37).position());
        due("ZERO a n", 37, afterOne(ZERO, regs(0, 1, 2), 37).position());
        due("ZERO a n of another", 1, afterOne(ZERO, regs(6, 0, 0), 37).position());
    }

    /** A machine whose register r held 11 * r when it carried the one instruction out. */
    private static WindowedCalls afterOne(int op, int regs, int n) {
        WindowedCalls x = machine(op, regs, n);
        for (int r = 0; r < 8; r++) {
            x.put(r, 11 * r);
        }
        due("run of op " + op, 1, x.run(1));
        return x;
    }

    // Promise 3

    private static void dropOfNone() {
        WindowedCalls x = new WindowedCalls();
        due("drop of a new object", BAD, x.drop());
        due("emit after it", 0, x.emit(SET, 0, 1));
        due("second emit", 1, x.emit(SET, 0, 2));
        due("drop of two", 1, x.drop());
        due("drop of one", 0, x.drop());
        due("drop of none", BAD, x.drop());
        due("drop of none again", BAD, x.drop());
        due("emit after drops of none", 0, x.emit(SET, 0, 3));
        due("run of it", 1, x.run(5));
        due("register", 3, x.register(0));
        WindowedCalls full = programOf(24);
        due("drop of 24", 23, full.drop());
        due("drop of 23", 22, full.drop());
    }

    // Promise 4

    private static void begunAnew(String why, WindowedCalls x, int runs) {
        x.restart();
        due(why + ": depth", 1, x.depth());
        dueState(why, "going at 0 done 0 digest 0 | back to -1: 0 0 0 0 0 0 0 0", state(x));
        due(why + ": the call above is gone", 0, x.below(-1, 7));
        due(why + ": the call below is none", 0, x.below(1, 7));
        due(why + ": run again", runs, x.run(200));
    }

    private static void restartBeginsAnew() {
        begunAnew("a new object", new WindowedCalls(), 0);
        WindowedCalls empty = new WindowedCalls();
        due("run of the empty program", 0, empty.run(1));
        begunAnew("halted in an empty program", empty, 0);
        for (int depth : new int[] {1, 2, 3, 30}) {
            begunAnew("going at depth " + depth, deepAndFilled(depth), 29);
        }
        WindowedCalls full = deepAndFilled(30);
        due("run at 30 calls", 0, full.run(1));
        begunAnew("halted at 30 calls", full, 29);
        begunAnew("halted at 30 calls once more", full, 29);
        WindowedCalls bottom = machine(SET, 7, 1, RETURN, 0, 0);
        bottom.put(0, 1);
        due("run to the bottom RETURN", 2, bottom.run(200));
        begunAnew("halted by the bottom RETURN", bottom, 2);
        WindowedCalls outside = machine(SET, 0, 1, CALL, 0, -1);
        due("run out of the program", 2, outside.run(200));
        begunAnew("halted outside the program", outside, 2);
        outside.restart();
        begunAnew("restarted already", outside, 2);
    }

    // Promise 5

    private static void runCountsBelow0As0AndAbove200As200() {
        for (int n : new int[] {MIN, MIN + 1, -201, -200, -1, 0, 1, 2, 199, 200, 201, 202, 400, MAX - 1, MAX}) {
            int want = n < 0 ? 0 : n > 200 ? 200 : n;
            WindowedCalls x = machine(ADD, regs(0, 0, 1), 0, JUMP, 0, 0);
            x.put(1, 1);
            due("run(" + n + ")", want, x.run(n));
            isAt("run(" + n + ")", x, false, want % 2, 1, want);
            due("additions of run(" + n + ")", (want + 1) / 2, x.register(0));
            due("run(" + n + ") again", want, x.run(n));
            due("done after both", 2 * want, x.done());
        }
    }

    private static void wantOfAPositionIsNotCarriedOut() {
        for (int length : new int[] {0, 1, 23, 24}) {
            for (int n = length; n <= length + 2; n++) {
                WindowedCalls x = programOf(length);
                due("run(" + n + ") of " + length, length, x.run(n));
                isAt("run(" + n + ") of " + length, x, n > length, length, 1, length);
            }
        }
    }

    private static void callAt30IsNotCarriedOut() {
        for (int n : new int[] {28, 29, 30, 31, 200}) {
            int want = n < 29 ? n : 29;
            WindowedCalls x = machine(CALL, 0, 0);
            due("run(" + n + ")", want, x.run(n));
            isAt("run(" + n + ")", x, n > 29, 0, want + 1, want);
        }
    }

    private static void bottomReturnIsCarriedOut() {
        for (int n : new int[] {0, 1, 2, 3, 200}) {
            int want = n < 2 ? n : 2;
            WindowedCalls x = machine(SET, 0, 1, RETURN, 0, 0);
            due("run(" + n + ")", want, x.run(n));
            isAt("run(" + n + ")", x, n >= 2, n == 0 ? 0 : 1, 1, want);
        }
        WindowedCalls y = machine(RETURN, 0, 0);
        due("run of RETURN alone", 1, y.run(200));
        due("run once more", 0, y.run(200));
        due("done", 1, y.done());
    }

    // Promises 6 and 7

    private static void halted() {
        WindowedCalls x = machine(CALL, 0, 2, RETURN, 0, 0, RETURN, 0, 0);
        due("new", false, x.halted());
        due("run into the call", 1, x.run(1));
        due("in the call", false, x.halted());
        due("run of RETURN in the call", 1, x.run(1));
        due("behind CALL", false, x.halted());
        due("run of the bottom RETURN", 1, x.run(1));
        due("by the bottom RETURN", true, x.halted());
        due("seen again", true, x.halted());
        x.restart();
        due("after restart", false, x.halted());
        WindowedCalls y = deep(30);
        due("at 30 calls", false, y.halted());
        y.run(1);
        due("by CALL at 30 calls", true, y.halted());
        y.restart();
        due("after restart", false, y.halted());
        WindowedCalls z = machine(JUMP, 0, 1);
        due("run of JUMP", 1, z.run(1));
        due("outside, not looked at", false, z.halted());
        z.run(1);
        due("outside", true, z.halted());
        z.restart();
        due("after restart", false, z.halted());
    }

    private static void positionOfTheBottomReturn() {
        for (int at : new int[] {0, 1, 22, 23}) {
            WindowedCalls x = programOf(at);
            due("emit of RETURN", at, x.emit(RETURN, 0, 0));
            due("run up to RETURN", at, x.run(at));
            isAt("before RETURN at " + at, x, false, at, 1, at);
            due("run of RETURN", 1, x.run(1));
            isAt("halted by RETURN at " + at, x, true, at, 1, at + 1);
            due("run when halted", 0, x.run(1));
            due("position once more", at, x.position());
        }
    }

    private static void positionOfTheCallThatIsNotDone() {
        for (int at : new int[] {0, 1, 5, 23}) {
            WindowedCalls x = programOf(at);
            due("emit of CALL", at, x.emit(CALL, 0, at));
            due("run to 30 calls", at + 29, x.run(at + 29));
            isAt("at 30 calls, CALL at " + at, x, false, at, 30, at + 29);
            due("run of CALL at 30 calls", 0, x.run(1));
            isAt("halted by CALL at " + at, x, true, at, 30, at + 29);
        }
    }

    private static void positionThatIsNotInTheProgram() {
        for (int n : new int[] {MIN, -24, -1, 1, 2, 23, 24, 25, MAX}) {
            for (int op : new int[] {JUMP, ZERO, CALL}) {
                WindowedCalls x = machine(op, 0, n);
                int depth = op == CALL ? 2 : 1;
                due("run out of the program", 1, x.run(200));
                isAt("op " + op + " to " + n, x, true, n, depth, 1);
            }
        }
        WindowedCalls full = programOf(24);
        due("run of 23", 23, full.run(23));
        due("position of the last", 23, full.position());
        due("run of the last and beyond", 1, full.run(2));
        isAt("behind 24", full, true, 24, 1, 24);
        WindowedCalls dropped = programOf(2);
        due("run of one", 1, dropped.run(1));
        due("drop of the one at the position", 1, dropped.drop());
        due("run where none is left", 0, dropped.run(1));
        isAt("where one was dropped", dropped, true, 1, 1, 1);
    }

    private static void positionAtWhichItGoesOn() {
        WindowedCalls x = machine(SET, 0, 0, ZERO, 0, 4, SET, 7, 7, RETURN, 0, 0, CALL, 0, 6, JUMP, 0, 3, RETURN, 0, 0);
        for (int want : new int[] {0, 1, 4, 6, 5, 3, 3}) {
            due("position", want, x.position());
            x.run(1);
        }
        due("halted", true, x.halted());
        due("position when halted", 3, x.position());
    }

    // Promise 8

    private static void depth() {
        WindowedCalls x = machine(CALL, 0, 0);
        for (int depth = 1; depth <= 30; depth++) {
            due("calls that began", depth, x.depth());
            x.run(1);
        }
        due("halted by CALL", true, x.halted());
        due("calls when halted by CALL", 30, x.depth());
        WindowedCalls y = deep(30);
        replace(y, RETURN, 0, 0);
        due("emit", 1, y.emit(JUMP, 0, 0));
        for (int depth = 30; depth > 1; depth--) {
            due("calls that have not ended", depth, y.depth());
            due("run of RETURN and JUMP", 2, y.run(2));
        }
        due("the bottom call", 1, y.depth());
        due("run of the bottom RETURN", 1, y.run(2));
        due("halted by RETURN", true, y.halted());
        due("calls when halted by RETURN", 1, y.depth());
        for (int depth : new int[] {1, 2, 29, 30}) {
            WindowedCalls z = deep(depth);
            due("drop", 0, z.drop());
            due("run where nothing is", 0, z.run(1));
            isAt("halted for want", z, true, 0, depth, depth - 1);
        }
    }

    // Promises 9, 10 and 11

    /** A machine with that many calls, filled, where a further call has ended that had filled registers too. */
    private static WindowedCalls betweenFilledCalls(int depth) {
        WindowedCalls x = deepAndFilled(depth + 1);
        replace(x, RETURN, 0, 0);
        due("run of RETURN", 1, x.run(1));
        due("depth", depth, x.depth());
        return x;
    }

    private static void registerOfNoNumber() {
        for (int depth : new int[] {1, 2, 29}) {
            WindowedCalls x = betweenFilledCalls(depth);
            for (int r : NO_REGISTERS) {
                due("register(" + r + ") at depth " + depth, 0, x.register(r));
            }
            for (int r = 0; r < 8; r++) {
                due("register(" + r + ") at depth " + depth, filled(depth - 1, r), x.register(r));
            }
        }
        WindowedCalls top = deepAndFilled(30);
        due("register(7) at depth 30", filled(29, 7), top.register(7));
        due("register(8) at depth 30", 0, top.register(8));
        due("register(0) at depth 30", filled(29, 0), top.register(0));
        due("register(-1) at depth 30", 0, top.register(-1));
    }

    private static void belowOfNoCall() {
        for (int depth : new int[] {1, 2, 3, 29}) {
            WindowedCalls x = betweenFilledCalls(depth);
            for (int d : new int[] {MIN, MIN + 1, -30, -2, -1, depth, depth + 1, 30, 31, MAX - 1, MAX}) {
                for (int r : new int[] {0, 3, 4, 7}) {
                    due("below(" + d + ", " + r + ") at depth " + depth, 0, x.below(d, r));
                }
            }
            for (int r = 0; r < 8; r++) {
                due("below(0, " + r + ") at depth " + depth, filled(depth - 1, r), x.below(0, r));
                due("the bottom's " + r + " at depth " + depth, filled(0, r), x.below(depth - 1, r));
            }
        }
        WindowedCalls top = deepAndFilled(30);
        due("below(-1, 0) at depth 30", 0, top.below(-1, 0));
        due("below(0, 0) at depth 30", filled(29, 0), top.below(0, 0));
        due("below(29, 0) at depth 30", filled(0, 0), top.below(29, 0));
        due("below(30, 7) at depth 30", 0, top.below(30, 7));
    }

    private static void belowOfNoRegister() {
        for (int depth : new int[] {1, 2, 3, 29}) {
            WindowedCalls x = betweenFilledCalls(depth);
            for (int d : new int[] {-1, 0, depth / 2, depth - 1, depth}) {
                for (int r : NO_REGISTERS) {
                    due("below(" + d + ", " + r + ") at depth " + depth, 0, x.below(d, r));
                }
            }
        }
    }

    private static void putIntoNoRegister() {
        for (int depth : new int[] {1, 2, 3}) {
            WindowedCalls x = betweenFilledCalls(depth);
            String before = state(x);
            for (int r : NO_REGISTERS) {
                due("put(" + r + ", 5) at depth " + depth, false, x.put(r, 5));
            }
            dueState("put into no register", before, state(x));
            for (int r = 0; r < 8; r++) {
                due("put(" + r + ", 5) at depth " + depth, true, x.put(r, 5));
                due("register " + r, 5, x.register(r));
            }
        }
        WindowedCalls top = deepAndFilled(30);
        due("put(8, 5) at depth 30", false, top.put(8, 5));
        due("put(-1, 5) at depth 30", false, top.put(-1, 5));
        due("the caller's 3 is as it was", filled(28, 3), top.below(1, 3));
        due("put(7, MIN) at depth 30", true, top.put(7, MIN));
        due("register 7 at depth 30", MIN, top.register(7));
        due("put(0, MAX) at depth 30", true, top.put(0, MAX));
        due("register 0 at depth 30", MAX, top.register(0));
    }

    // Promise 12

    private static void backToOfNoCallOrTheBottomOne() {
        for (int depth : new int[] {1, 2, 3, 29, 30}) {
            WindowedCalls x = deep(depth);
            for (int d : new int[] {MIN, MIN + 1, -30, -2, -1, depth - 1, depth, depth + 1, 30, 31, MAX - 1, MAX}) {
                due("backTo(" + d + ") at depth " + depth, BAD, x.backTo(d));
            }
            for (int d = 0; d < depth - 1; d++) {
                due("backTo(" + d + ") at depth " + depth, 1, x.backTo(d));
            }
        }
        WindowedCalls y = betweenFilledCalls(2);
        due("backTo(-1), where a call has ended", BAD, y.backTo(-1));
        due("backTo(0)", 1, y.backTo(0));
        due("backTo(1), the bottom call", BAD, y.backTo(1));
        due("backTo(2)", BAD, y.backTo(2));
    }

    private static void backToBehindEveryCall() {
        WindowedCalls x = new WindowedCalls();
        for (int i = 0; i < 24; i++) {
            due("emit", i, x.emit(CALL, 0, i + 1));
        }
        due("run of 24 CALLs", 24, x.run(200));
        for (int d = 0; d < 24; d++) {
            due("backTo(" + d + ")", 24 - d, x.backTo(d));
        }
        due("backTo(24), the bottom call", BAD, x.backTo(24));
        due("backTo(25)", BAD, x.backTo(25));
    }

    // Promise 13

    private static void digestWeighsEveryRegister() {
        for (int k = 0; k < 30; k++) {
            for (int r = 0; r < 8; r++) {
                WindowedCalls x = deep(k + 1);
                x.put(r, 1);
                int own = 8 * k + r + 1;
                int callers = k > 0 && r < 4 ? 8 * (k - 1) + r + 4 + 1 : 0;
                due("weight of register " + r + " with " + k + " below", own + callers, x.digest());
            }
            due("all registers of " + (k + 1) + " calls", digestOfFilled(k + 1), deepAndFilled(k + 1).digest());
        }
    }

    private static void digestOf(int want, int... registers) {
        WindowedCalls x = new WindowedCalls();
        for (int r = 0; r < registers.length; r++) {
            x.put(r, registers[r]);
        }
        due("digest of " + java.util.Arrays.toString(registers), want, x.digest());
    }

    private static void digestWraps() {
        int half = 1 << 30;
        digestOf(MAX, MAX);
        digestOf(MAX, MAX - 2, 1);
        digestOf(MIN, MAX - 1, 1);
        digestOf(MIN + 1, MAX, 1);
        digestOf(MIN, MIN);
        digestOf(MIN, MIN + 2, -1);
        digestOf(MAX, MIN + 1, -1);
        digestOf(MAX - 1, MIN, -1);
        digestOf(MAX - 1, 0, half - 1);
        digestOf(MIN, 0, half);
        digestOf(MIN, 0, -half);
        digestOf(0, 0, MIN);
        digestOf(0, 0, 0, 0, half);
        digestOf((int) (36L * MAX), MAX, MAX, MAX, MAX, MAX, MAX, MAX, MAX);
        digestOf((int) (36L * MIN), MIN, MIN, MIN, MIN, MIN, MIN, MIN, MIN);
        WindowedCalls x = deep(30);
        x.put(7, MAX);
        due("digest of MAX with weight 240", (int) (240L * MAX), x.digest());
    }

    // Promise 14

    private static void doneSinceTheBeginningOrRestart() {
        WindowedCalls x = machine(SET, 0, 1, SET, 0, 2, RETURN, 0, 0);
        due("at the beginning", 0, x.done());
        x.run(0);
        due("after run(0)", 0, x.done());
        x.run(1);
        due("after run(1)", 1, x.done());
        x.put(0, 5);
        x.emit(SET, 0, 1);
        x.drop();
        due("after put, emit and drop", 1, x.done());
        x.run(-1);
        due("after run(-1)", 1, x.done());
        x.run(200);
        due("when halted by RETURN", 3, x.done());
        x.run(200);
        due("after a run when halted", 3, x.done());
        x.restart();
        due("after restart", 0, x.done());
        x.restart();
        due("after restart again", 0, x.done());
        x.run(2);
        due("since restart", 2, x.done());
        x.restart();
        due("after restart in the middle", 0, x.done());
        x.run(200);
        due("since the last restart", 3, x.done());
    }

    private static void doneOfAsManyCallsAsAreAllowed() {
        WindowedCalls x = machine(JUMP, 0, 0);
        int sum = 0;
        for (int i = 0; i < 510; i++) {
            sum += x.run(200);
        }
        due("sum of 510 runs", 102000, sum);
        due("the 512th call", 102000, x.done());
    }

    // Promise 15

    private static void thePositionIsLookedAtOnlyByRun() {
        WindowedCalls x = machine(SET, 0, 1);
        due("run to the end", 1, x.run(1));
        for (int n : new int[] {0, -1, MIN}) {
            due("run(" + n + ")", 0, x.run(n));
            isAt("after run(" + n + ")", x, false, 1, 1, 1);
        }
        due("emit where nothing was", 1, x.emit(SET, 1, 2));
        due("run of it", 1, x.run(1));
        isAt("behind it", x, false, 2, 1, 2);
        due("drop of it", 1, x.drop());
        isAt("after drop", x, false, 2, 1, 2);
        due("run(1) into nothing", 0, x.run(1));
        isAt("after run(1) into nothing", x, true, 2, 1, 2);
        WindowedCalls empty = new WindowedCalls();
        due("run(0) of an empty program", 0, empty.run(0));
        due("run(-1) of an empty program", 0, empty.run(-1));
        isAt("empty program", empty, false, 0, 1, 0);
    }

    private static void run200LooksAtNothingMore() {
        for (int n : new int[] {200, 201, MAX}) {
            WindowedCalls x = machine(SUB, regs(0, 0, 1), 0, ZERO, 0, 3, JUMP, 0, 0);
            // 66 rounds of three, then SUB and ZERO: the 200th instruction leaves the program.
            x.put(0, 67);
            x.put(1, 1);
            due("run(" + n + ")", 200, x.run(n));
            isAt("after 200 instructions", x, false, 3, 1, 200);
            due("run of one more", 0, x.run(1));
            isAt("after one more", x, true, 3, 1, 200);
        }
    }

    private static void theCallIsLookedAtOnlyByRun() {
        WindowedCalls x = deep(30);
        for (int n : new int[] {0, -1, MIN}) {
            due("run(" + n + ")", 0, x.run(n));
            isAt("after run(" + n + ")", x, false, 0, 30, 29);
        }
        replace(x, SET, 0, 4);
        due("run of what is there now", 1, x.run(1));
        isAt("behind it", x, false, 1, 30, 30);
        WindowedCalls y = deep(30);
        due("run(1)", 0, y.run(1));
        isAt("after run(1)", y, true, 0, 30, 29);
    }

    private static void theBottomReturnHaltsAtOnce() {
        WindowedCalls x = machine(SET, 0, 1, RETURN, 0, 0);
        due("run before RETURN", 1, x.run(1));
        due("run(0) at RETURN", 0, x.run(0));
        isAt("at RETURN", x, false, 1, 1, 1);
        due("run(1) of RETURN", 1, x.run(1));
        isAt("after its n instructions", x, true, 1, 1, 2);
        WindowedCalls y = machine(CALL, 0, 1, RETURN, 0, 0);
        due("run of CALL and RETURN", 2, y.run(2));
        isAt("after RETURN of a call", y, false, 1, 1, 2);
    }

    private static void isStuck(String why, WindowedCalls x, int position, int depth, int done) {
        isAt(why, x, true, position, depth, done);
        for (int n : new int[] {MIN, -1, 0, 1, 200, MAX}) {
            due(why + ": run(" + n + ")", 0, x.run(n));
        }
        isAt(why + ", then run", x, true, position, depth, done);
    }

    private static void haltedForWantStaysHalted() {
        WindowedCalls x = machine(SET, 0, 1);
        due("run", 1, x.run(2));
        isStuck("for want", x, 1, 1, 1);
        due("emit where it was wanting", 1, x.emit(SET, 1, 2));
        isStuck("then emit", x, 1, 1, 1);
        due("drop", 1, x.drop());
        isStuck("then drop", x, 1, 1, 1);
        due("put", true, x.put(2, 3));
        due("register", 3, x.register(2));
        isStuck("then put", x, 1, 1, 1);
        due("emit", 1, x.emit(SET, 1, 2));
        x.restart();
        due("run after restart", 2, x.run(2));
        isAt("after restart", x, false, 2, 1, 2);
    }

    private static void haltedAt30CallsStaysHalted() {
        WindowedCalls x = deep(30);
        due("run", 0, x.run(1));
        isStuck("at 30 calls", x, 0, 30, 29);
        due("emit", 1, x.emit(RETURN, 0, 0));
        isStuck("then emit", x, 0, 30, 29);
        due("drop", 1, x.drop());
        replace(x, RETURN, 0, 0);
        isStuck("then another in its place", x, 0, 30, 29);
        due("put", true, x.put(0, 3));
        isStuck("then put", x, 0, 30, 29);
        x.restart();
        due("run after restart", 1, x.run(1));
        isAt("after restart", x, true, 0, 1, 1);
    }

    private static void haltedByReturnStaysHalted() {
        WindowedCalls x = machine(RETURN, 0, 0);
        due("run", 1, x.run(1));
        isStuck("by RETURN", x, 0, 1, 1);
        due("emit", 1, x.emit(SET, 0, 1));
        isStuck("then emit", x, 0, 1, 1);
        due("drop", 1, x.drop());
        replace(x, SET, 0, 1);
        isStuck("then another in its place", x, 0, 1, 1);
        due("put", true, x.put(7, 3));
        isStuck("then put", x, 0, 1, 1);
        due("drop of all", 0, x.drop());
        isStuck("then drop of all", x, 0, 1, 1);
        x.restart();
        isAt("after restart", x, false, 0, 1, 0);
    }

    private static void terms() {
        sentence("Terms: a PROGRAM of at most 24 instructions", SentencesTest::programOfAtMost24);
        String fresh = "Terms: its registers 4 .. 7 are 0 at first";
        sentence(fresh, SentencesTest::ownRegistersAreZeroAtFirst);
        sentence(fresh, SentencesTest::ownRegistersAreZeroInALaterCallToo);
        String shared = "Terms: what is written into one is in the other";
        sentence(shared, SentencesTest::whatIsWrittenIsInTheOther);
        sentence(shared, SentencesTest::whatIsWrittenStaysBehindTheCall);
        sentence("Terms: (arithmetic wraps)", SentencesTest::arithmeticWraps);
        String outside = "Terms: A position that is not in the program makes the machine HALT";
        sentence(outside, SentencesTest::positionNotInTheProgramHalts);
        sentence(outside, SentencesTest::nextPositionNotInTheProgramHalts);
        sentence(outside, SentencesTest::returnToAPositionNotInTheProgramHalts);
        String thirty = "Terms: and so does a CALL when there are 30 calls (it is not done then)";
        sentence(thirty, SentencesTest::callIsDoneUntilThereAre30);
        sentence(thirty, SentencesTest::callThatIsNotDoneChangesNothing);
        sentence(thirty, SentencesTest::onlyCallHaltsAt30Calls);
        String gone = "Terms: When a call ends, its registers 4 .. 7 are gone.";
        sentence(gone, SentencesTest::ownRegistersAreGoneWhenACallEnds);
        sentence(gone, SentencesTest::bottomCallKeepsItsRegistersWhenHalted);
    }

    private static void promises1To5() {
        sentence("1: An empty program; the bottom call at position 0.", SentencesTest::newObject);
        String bad = "2: BAD when op is not 0 .. 7 or regs is not 0 .. 511; FULL when there are 24 (tested in this order).";
        sentence(bad, SentencesTest::emitBadOrFullInThisOrder);
        sentence(bad, SentencesTest::emitTakesTheEdges);
        String unused = "2: numbers that the operation does not use do not matter";
        sentence(unused, SentencesTest::numbersNotUsedDoNotMatter);
        sentence(unused, SentencesTest::numbersUsedMatter);
        sentence("3: BAD when there is none.", SentencesTest::dropOfNone);
        sentence("4: the bottom call at position 0, all registers 0, not halted.", SentencesTest::restartBeginsAnew);
        sentence("5: below 0 counts as 0, above 200 as 200", SentencesTest::runCountsBelow0As0AndAbove200As200);
        String carriedOut = "5: What makes the machine halt for want of a position, or because there are 30 calls, "
            + "is not carried out; a RETURN of the bottom call is.";
        sentence(carriedOut, SentencesTest::wantOfAPositionIsNotCarriedOut);
        sentence(carriedOut, SentencesTest::callAt30IsNotCarriedOut);
        sentence(carriedOut, SentencesTest::bottomReturnIsCarriedOut);
    }

    private static void promises6To12() {
        sentence("6: Whether the machine has halted.", SentencesTest::halted);
        String position = "7: that of the RETURN of the bottom call, of the CALL that is not done, "
            + "or the one that is not in the program.";
        sentence(position, SentencesTest::positionOfTheBottomReturn);
        sentence(position, SentencesTest::positionOfTheCallThatIsNotDone);
        sentence(position, SentencesTest::positionThatIsNotInTheProgram);
        sentence("7: The position at which it goes on", SentencesTest::positionAtWhichItGoesOn);
        sentence("8: The number of calls that have not ended, the bottom one too (also when halted).",
            SentencesTest::depth);
        sentence("9: 0 when r is not 0 .. 7.", SentencesTest::registerOfNoNumber);
        String none = "10: 0 when there is none or r is not 0 .. 7.";
        sentence(none, SentencesTest::belowOfNoCall);
        sentence(none, SentencesTest::belowOfNoRegister);
        sentence("11: false when r is not 0 .. 7.", SentencesTest::putIntoNoRegister);
        String back = "12: BAD when there is none, or it is the bottom one.";
        sentence(back, SentencesTest::backToOfNoCallOrTheBottomOne);
        sentence(back, SentencesTest::backToBehindEveryCall);
    }

    private static void promises13To15() {
        String digest = "13: The wrapping sum of all registers of all calls";
        sentence(digest, SentencesTest::digestWeighsEveryRegister);
        sentence(digest, SentencesTest::digestWraps);
        String done = "14: since the beginning or the last restart.";
        sentence(done, SentencesTest::doneSinceTheBeginningOrRestart);
        sentence(done, SentencesTest::doneOfAsManyCallsAsAreAllowed);
        String late = "15: Whether there is an instruction at the position, and whether a CALL can be done, "
            + "is looked at only when run is to carry it out";
        sentence(late, SentencesTest::thePositionIsLookedAtOnlyByRun);
        sentence(late, SentencesTest::run200LooksAtNothingMore);
        sentence(late, SentencesTest::theCallIsLookedAtOnlyByRun);
        sentence(late, SentencesTest::theBottomReturnHaltsAtOnce);
        String stays = "15: A machine that has halted stays halted until restart, whatever emit, drop and put do; "
            + "run answers 0 then.";
        sentence(stays, SentencesTest::haltedForWantStaysHalted);
        sentence(stays, SentencesTest::haltedAt30CallsStaysHalted);
        sentence(stays, SentencesTest::haltedByReturnStaysHalted);
    }

    public static void main(String[] args) {
        terms();
        promises1To5();
        promises6To12();
        promises13To15();
        System.out.println(wrong == 0 ? "all sentences hold" : wrong + " answers are not as due");
        if (wrong != 0) {
            System.exit(1);
        }
    }
}
