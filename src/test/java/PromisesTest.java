import java.util.function.Consumer;

/** One method or more for each promise of the document; every wrong answer is printed. */
public final class PromisesTest {
    private static final int SET = 0;
    private static final int ADD = 1;
    private static final int SUB = 2;
    private static final int JUMP = 3;
    private static final int COPY = 4;
    private static final int CALL = 5;
    private static final int RETURN = 6;
    private static final int ZERO = 7;
    private static final int MIN = Integer.MIN_VALUE;
    private static final int MAX = Integer.MAX_VALUE;

    private static int wrong = 0;

    private static void due(String what, long want, long got) {
        if (want != got) {
            wrong++;
            System.out.println(what + " answered " + got + ", due is " + want);
        }
    }

    private static void due(String what, boolean want, boolean got) {
        due(what, want ? 1 : 0, got ? 1 : 0);
    }

    private static int regs(int a, int b, int c) {
        return a + 8 * b + 64 * c;
    }

    /** Puts an instruction in whose emission is not what the test is about. */
    private static void add(WindowedCalls x, int op, int regs, int n) {
        if (x.emit(op, regs, n) < 0) {
            wrong++;
            System.out.println("emit(" + op + ", " + regs + ", " + n + ") was refused");
        }
    }

    /** A machine that has begun as many calls as asked for (2 .. 30), all by the CALL at 0. */
    private static WindowedCalls deep(int depth) {
        WindowedCalls x = new WindowedCalls();
        add(x, CALL, 0, 0);
        due("run to depth " + depth, depth - 1, x.run(depth - 1));
        return x;
    }

    // Promise 1

    private static void newObject() {
        WindowedCalls x = new WindowedCalls();
        due("1 BAD", -1, WindowedCalls.BAD);
        due("1 FULL", -2, WindowedCalls.FULL);
        due("1 halted", false, x.halted());
        due("1 position", 0, x.position());
        due("1 depth", 1, x.depth());
        due("1 done", 0, x.done());
        due("1 digest", 0, x.digest());
        due("1 backTo", -1, x.backTo(0));
        for (int r = 0; r < 8; r++) {
            due("1 register " + r, 0, x.register(r));
        }
        due("1 drop of the empty program", -1, x.drop());
        due("1 first emit", 0, x.emit(SET, 0, 0));
    }

    private static void objectsAreApart() {
        WindowedCalls x = new WindowedCalls();
        WindowedCalls y = new WindowedCalls();
        add(x, SET, 0, 7);
        due("1 run of one object", 1, x.run(1));
        due("1 register of the other", 0, y.register(0));
        due("1 position of the other", 0, y.position());
        due("1 program of the other", -1, y.drop());
    }

    // Promise 2

    private static void emitWrongArguments() {
        WindowedCalls x = new WindowedCalls();
        for (int op : new int[] {-1, 8, 9, MIN, MAX}) {
            due("2 emit of op " + op, -1, x.emit(op, 0, 0));
        }
        for (int regs : new int[] {-1, 512, 513, MIN, MAX}) {
            for (int op = 0; op < 8; op++) {
                due("2 emit of op " + op + " with regs " + regs, -1, x.emit(op, regs, 0));
            }
        }
        due("2 nothing was appended", -1, x.drop());
    }

    private static void emitAnswersPositions() {
        WindowedCalls x = new WindowedCalls();
        for (int i = 0; i < 24; i++) {
            due("2 emit number " + i, i, x.emit(i % 8, i % 2 == 0 ? 511 : 0, i % 3 == 0 ? MIN : MAX));
        }
        due("2 emit above 24", -2, x.emit(SET, 0, 0));
        due("2 emit above 24 again", -2, x.emit(ZERO, 511, 0));
        due("2 wrong op before full", -1, x.emit(8, 0, 0));
        due("2 wrong op below before full", -1, x.emit(-1, 0, 0));
        due("2 wrong regs before full", -1, x.emit(0, 512, 0));
        due("2 wrong regs below before full", -1, x.emit(0, -1, 0));
        due("2 drop of a full program", 23, x.drop());
        due("2 emit into the free place", 23, x.emit(SET, 0, 0));
        due("2 full again", -2, x.emit(SET, 0, 0));
    }

    private static void emitKeepsTheMachine() {
        WindowedCalls x = deep(3);
        x.put(2, 9);
        add(x, SET, 0, 1);
        due("2 position after emit", 0, x.position());
        due("2 depth after emit", 3, x.depth());
        due("2 register after emit", 9, x.register(2));
        due("2 done after emit", 2, x.done());
    }

    private static void unusedNumbersDoNotMatter() {
        WindowedCalls x = new WindowedCalls();
        add(x, SET, regs(1, 7, 7), 5);
        add(x, COPY, regs(2, 1, 7), 99);
        add(x, ADD, regs(3, 1, 2), 99);
        add(x, SUB, regs(4, 3, 1), 99);
        add(x, ZERO, regs(0, 7, 7), 6);
        add(x, RETURN, 511, 99);
        add(x, CALL, 511, 8);
        add(x, JUMP, regs(1, 7, 7), 5);
        add(x, RETURN, 511, 99);
        due("2 run", 9, x.run(200));
        due("2 position", 5, x.position());
        due("2 register 1", 5, x.register(1));
        due("2 register 2", 5, x.register(2));
        due("2 register 3", 10, x.register(3));
        due("2 register 4", 5, x.register(4));
        due("2 register 7", 0, x.register(7));
    }

    // Promise 3

    private static void dropCountsDown() {
        WindowedCalls x = new WindowedCalls();
        due("3 drop of none", -1, x.drop());
        for (int i = 0; i < 24; i++) {
            add(x, SET, 0, i);
        }
        for (int left = 23; left >= 0; left--) {
            due("3 drop", left, x.drop());
        }
        due("3 drop of none left", -1, x.drop());
        due("3 emit after drops", 0, x.emit(SET, 0, 1));
    }

    private static void dropTakesTheLast() {
        WindowedCalls x = new WindowedCalls();
        add(x, SET, 0, 1);
        add(x, SET, 0, 2);
        due("3 drop", 1, x.drop());
        due("3 run without the last", 1, x.run(5));
        due("3 register", 1, x.register(0));
        due("3 halted", true, x.halted());
        x.restart();
        add(x, SET, 1, 3);
        due("3 run with another last", 2, x.run(5));
        due("3 register of the first", 1, x.register(0));
        due("3 register of the other last", 3, x.register(1));
    }

    private static void dropUnderTheMachine() {
        WindowedCalls x = new WindowedCalls();
        add(x, SET, 0, 1);
        add(x, CALL, 0, 2);
        add(x, RETURN, 0, 0);
        due("3 run into the call", 2, x.run(2));
        due("3 drop of the present one", 2, x.drop());
        due("3 position stays", 2, x.position());
        due("3 not halted by drop", false, x.halted());
        due("3 depth stays", 2, x.depth());
        due("3 run into nothing", 0, x.run(1));
        due("3 halted", true, x.halted());
        due("3 position of nothing", 2, x.position());
        due("3 depth when halted", 2, x.depth());
        due("3 backTo when halted", 2, x.backTo(0));
    }

    // Promise 4

    private static void restartBeginsAnew() {
        WindowedCalls x = deep(30);
        for (int r = 0; r < 8; r++) {
            x.put(r, r + 1);
        }
        due("4 run into the limit", 0, x.run(1));
        due("4 halted", true, x.halted());
        x.restart();
        due("4 not halted", false, x.halted());
        due("4 depth", 1, x.depth());
        due("4 position", 0, x.position());
        due("4 done", 0, x.done());
        due("4 digest", 0, x.digest());
        due("4 backTo", -1, x.backTo(0));
        due("4 the program stays", 29, x.run(200));
        due("4 digest of fresh calls", 0, x.digest());
    }

    private static void restartClearsTheBottomCall() {
        WindowedCalls x = new WindowedCalls();
        add(x, RETURN, 0, 0);
        for (int r = 0; r < 8; r++) {
            x.put(r, r + 1);
        }
        due("4 run", 1, x.run(1));
        x.restart();
        for (int r = 0; r < 8; r++) {
            due("4 register " + r, 0, x.register(r));
        }
        due("4 run again", 1, x.run(1));
        due("4 done", 1, x.done());
    }

    // Promise 5, and the operations of the section Terms

    private static void runCountsInstructions() {
        WindowedCalls x = new WindowedCalls();
        add(x, JUMP, 0, 0);
        for (int n : new int[] {0, -1, -200, MIN}) {
            due("5 run(" + n + ")", 0, x.run(n));
        }
        due("5 done of none", 0, x.done());
        due("5 run(1)", 1, x.run(1));
        due("5 run(199)", 199, x.run(199));
        due("5 run(200)", 200, x.run(200));
        due("5 run(201)", 200, x.run(201));
        due("5 run(MAX)", 200, x.run(MAX));
        due("5 done", 800, x.done());
        due("5 not halted", false, x.halted());
    }

    private static void runStopsAtTheEnd() {
        WindowedCalls x = new WindowedCalls();
        add(x, SET, 0, 1);
        add(x, SET, 1, 2);
        due("5 run to a missing position", 2, x.run(10));
        due("5 halted", true, x.halted());
        due("5 position", 2, x.position());
        x.restart();
        add(x, RETURN, 0, 0);
        due("5 run to the bottom RETURN", 3, x.run(10));
        due("5 halted by RETURN", true, x.halted());
        due("5 position of RETURN", 2, x.position());
        due("5 done", 3, x.done());
    }

    private static void runStopsAtThirtyCalls() {
        WindowedCalls x = new WindowedCalls();
        add(x, CALL, 0, 0);
        due("5 run to 30 calls", 29, x.run(200));
        due("5 halted", true, x.halted());
        due("5 position of the CALL", 0, x.position());
        due("5 depth", 30, x.depth());
        due("5 done", 29, x.done());
    }

    private static void returnFromThirtyCallsMakesRoom() {
        WindowedCalls x = new WindowedCalls();
        add(x, ZERO, 0, 2);
        add(x, RETURN, 0, 0);
        add(x, CALL, 0, 0);
        add(x, CALL, 0, 1);
        add(x, RETURN, 0, 0);
        due("5 run to 30 calls", 58, x.run(58));
        due("5 depth", 30, x.depth());
        x.put(0, 1);
        due("5 run out of the last and into a new one", 3, x.run(3));
        due("5 depth again", 30, x.depth());
        due("5 not halted", false, x.halted());
        due("5 backTo", 4, x.backTo(0));
        due("5 backTo below", 3, x.backTo(1));
    }

    private static void setAnyRegister() {
        for (int r = 0; r < 8; r++) {
            for (int v : new int[] {0, 1, -1, MIN, MAX}) {
                WindowedCalls x = new WindowedCalls();
                add(x, SET, r, v);
                x.put(r, 77);
                due("5 run of SET", 1, x.run(1));
                due("5 SET " + r, v, x.register(r));
                due("5 SET alone", v * (r + 1), x.digest());
                due("5 position after SET", 1, x.position());
            }
        }
    }

    private static void arithmeticOfAnyRegisters() {
        for (int regs = 0; regs < 512; regs++) {
            int a = regs % 8;
            int b = regs / 8 % 8;
            int c = regs / 64;
            arithmetic("ADD", ADD, regs, a, value(b) + value(c));
            arithmetic("SUB", SUB, regs, a, value(b) - value(c));
            arithmetic("COPY", COPY, regs, a, value(b));
        }
    }

    private static int value(int r) {
        return 1000003 * (r + 1) * (r + 1);
    }

    private static void arithmetic(String name, int op, int regs, int a, int want) {
        WindowedCalls x = new WindowedCalls();
        add(x, op, regs, 0);
        for (int r = 0; r < 8; r++) {
            x.put(r, value(r));
        }
        due("5 run of " + name, 1, x.run(1));
        for (int r = 0; r < 8; r++) {
            due("5 " + name + " " + regs + ": register " + r, r == a ? want : value(r), x.register(r));
        }
        due("5 position after " + name, 1, x.position());
    }

    private static void arithmeticWraps() {
        WindowedCalls x = new WindowedCalls();
        add(x, ADD, regs(0, 1, 2), 0);
        add(x, SUB, regs(3, 4, 2), 0);
        x.put(1, MAX);
        x.put(2, 1);
        x.put(4, MIN);
        due("5 run", 2, x.run(2));
        due("5 sum wraps", MIN, x.register(0));
        due("5 difference wraps", MAX, x.register(3));
    }

    private static void jumpAnywhere() {
        for (int n : new int[] {0, 1, 2, 3, 24, -1, MIN, MAX}) {
            WindowedCalls x = new WindowedCalls();
            add(x, JUMP, 0, n);
            add(x, SET, 0, 1);
            due("5 JUMP", 1, x.run(1));
            due("5 position after JUMP", n, x.position());
            due("5 not halted by JUMP", false, x.halted());
            boolean inside = n == 0 || n == 1;
            due("5 run after JUMP " + n, inside ? 1 : 0, x.run(1));
            due("5 halted after JUMP " + n, !inside, x.halted());
            due("5 position " + n, n == 0 ? 0 : n == 1 ? 2 : n, x.position());
        }
    }

    private static void zeroJumpsAtZeroOnly() {
        for (int r = 0; r < 8; r++) {
            for (int v : new int[] {0, 1, -1, MIN, MAX}) {
                WindowedCalls x = new WindowedCalls();
                add(x, ZERO, r, -7);
                for (int other = 0; other < 8; other++) {
                    x.put(other, v == 0 ? 1 : 0);
                }
                x.put(r, v);
                due("5 ZERO", 1, x.run(1));
                due("5 position after ZERO " + r + " of " + v, v == 0 ? -7 : 1, x.position());
                due("5 ZERO keeps the register", v, x.register(r));
            }
        }
    }

    private static void callSharesRegisters() {
        WindowedCalls x = new WindowedCalls();
        add(x, CALL, 0, 2);
        add(x, RETURN, 0, 0);
        add(x, SET, 1, 21);
        add(x, SET, 5, 25);
        add(x, RETURN, 0, 0);
        for (int r = 0; r < 8; r++) {
            x.put(r, 10 + r);
        }
        due("5 run of CALL", 1, x.run(1));
        due("5 position in the call", 2, x.position());
        for (int r = 0; r < 4; r++) {
            due("5 handed register " + r, 14 + r, x.register(r));
            due("5 fresh register " + (r + 4), 0, x.register(r + 4));
        }
        due("5 run of SETs", 2, x.run(2));
        due("5 written into both", 21, x.below(1, 5));
        due("5 written into its own", 25, x.register(5));
        due("5 run of RETURN", 1, x.run(1));
        due("5 position behind CALL", 1, x.position());
        due("5 depth", 1, x.depth());
        int[] want = {10, 11, 12, 13, 14, 21, 16, 17};
        for (int r = 0; r < 8; r++) {
            due("5 register " + r + " behind CALL", want[r], x.register(r));
        }
    }

    private static void callFindsFreshRegisters() {
        WindowedCalls x = new WindowedCalls();
        add(x, CALL, 0, 3);
        add(x, CALL, 0, 3);
        add(x, RETURN, 0, 0);
        add(x, CALL, 0, 5);
        add(x, RETURN, 0, 0);
        add(x, RETURN, 0, 0);
        due("5 run two calls in", 2, x.run(2));
        for (int r = 0; r < 8; r++) {
            x.put(r, 50 + r);
        }
        due("5 run one call out", 1, x.run(1));
        due("5 shared ones stay", 50, x.register(4));
        due("5 run to the bottom and in again", 2, x.run(2));
        for (int r = 4; r < 8; r++) {
            due("5 gone register " + r, 0, x.register(r));
        }
        due("5 run two calls in again", 1, x.run(1));
        for (int r = 0; r < 8; r++) {
            due("5 gone deeper register " + r, 0, x.register(r));
        }
    }

    private static void callOutsideTheProgram() {
        for (int n : new int[] {1, 24, -1, MIN, MAX}) {
            WindowedCalls x = new WindowedCalls();
            add(x, CALL, 0, n);
            due("5 CALL to " + n, 1, x.run(5));
            due("5 depth", 2, x.depth());
            due("5 position", n, x.position());
            due("5 halted", true, x.halted());
            due("5 backTo", 1, x.backTo(0));
        }
    }

    // Promise 6

    private static void haltedOnlyByRun() {
        WindowedCalls x = new WindowedCalls();
        due("6 new", false, x.halted());
        due("6 run", 0, x.run(1));
        due("6 want of a position", true, x.halted());
        x.restart();
        due("6 restart", false, x.halted());
        add(x, RETURN, 0, 0);
        due("6 emit", false, x.halted());
        due("6 run", 1, x.run(1));
        due("6 RETURN of the bottom call", true, x.halted());
        WindowedCalls y = deep(2);
        due("6 a CALL", false, y.halted());
        y.drop();
        y.emit(RETURN, 0, 0);
        due("6 run", 1, y.run(1));
        due("6 RETURN of another call", false, y.halted());
    }

    // Promise 7

    private static void positionFollows() {
        WindowedCalls x = new WindowedCalls();
        add(x, SET, 0, 1);
        add(x, CALL, 0, 4);
        add(x, JUMP, 0, 5);
        add(x, SET, 0, 1);
        add(x, RETURN, 0, 0);
        add(x, RETURN, 0, 0);
        int[] want = {1, 4, 2, 5, 5};
        for (int i = 0; i < want.length; i++) {
            due("7 run", 1, x.run(1));
            due("7 position after " + (i + 1), want[i], x.position());
        }
        due("7 halted", true, x.halted());
        due("7 depth", 1, x.depth());
    }

    private static void positionBehindAFullProgram() {
        WindowedCalls x = new WindowedCalls();
        for (int i = 0; i < 24; i++) {
            add(x, i == 23 ? CALL : SET, 0, 0);
        }
        due("7 run through", 24, x.run(24));
        due("7 backTo behind the program", 24, x.backTo(0));
        x.drop();
        x.emit(RETURN, 0, 0);
        due("7 run out", 24, x.run(200));
        due("7 position behind the program", 24, x.position());
        due("7 halted", true, x.halted());
    }

    // Promise 8

    private static void depthCountsCalls() {
        WindowedCalls x = new WindowedCalls();
        add(x, CALL, 0, 0);
        for (int depth = 1; depth <= 30; depth++) {
            due("8 depth", depth, x.depth());
            due("8 run", depth == 30 ? 0 : 1, x.run(1));
        }
        due("8 depth when halted", 30, x.depth());
        WindowedCalls y = deep(30);
        y.drop();
        y.emit(RETURN, 0, 0);
        y.emit(RETURN, 0, 0);
        for (int depth = 29; depth >= 1; depth--) {
            due("8 run out", 1, y.run(1));
            due("8 depth", depth, y.depth());
        }
        due("8 run of the bottom RETURN", 1, y.run(1));
        due("8 depth of the bottom call when halted", 1, y.depth());
    }

    // Promises 9, 10 and 11

    private static void wrongRegisters() {
        WindowedCalls x = deep(3);
        for (int r = 0; r < 8; r++) {
            due("11 put", true, x.put(r, r + 1));
        }
        int before = x.digest();
        for (int r : new int[] {-1, -4, 8, 9, 12, MIN, MAX}) {
            due("9 register " + r, 0, x.register(r));
            for (int d = -1; d < 4; d++) {
                due("10 below " + d + " " + r, 0, x.below(d, r));
            }
            due("11 put " + r, false, x.put(r, 99));
        }
        due("11 nothing was put", before, x.digest());
    }

    private static void belowReachesEveryCall() {
        WindowedCalls x = new WindowedCalls();
        add(x, CALL, 0, 0);
        for (int k = 0; k < 30; k++) {
            for (int r = k == 0 ? 0 : 4; r < 8; r++) {
                x.put(r, cell(k, r));
            }
            due("10 run", k < 29 ? 1 : 0, x.run(1));
        }
        for (int d = 0; d < 30; d++) {
            for (int r = 0; r < 8; r++) {
                due("10 below " + d + " " + r, cell(29 - d, r), x.below(d, r));
            }
        }
        for (int d : new int[] {-1, 30, 31, MIN, MAX}) {
            for (int r = 0; r < 8; r++) {
                due("10 below " + d + " " + r, 0, x.below(d, r));
            }
        }
        for (int r = 0; r < 8; r++) {
            due("9 register " + r, cell(29, r), x.register(r));
        }
    }

    private static int cell(int k, int r) {
        return 1 + 4 * k + r;
    }

    private static void belowSeesNoEndedCall() {
        WindowedCalls x = deep(2);
        x.put(7, 5);
        x.drop();
        x.emit(RETURN, 0, 0);
        due("10 run out", 1, x.run(1));
        due("10 below the bottom", 0, x.below(1, 7));
        due("10 above the present", 0, x.below(-1, 7));
    }

    private static void putIsShared() {
        WindowedCalls x = deep(3);
        for (int r = 0; r < 8; r++) {
            due("11 put " + r, true, x.put(r, 30 + r));
            due("11 register " + r, 30 + r, x.register(r));
        }
        for (int r = 0; r < 4; r++) {
            due("11 the caller's " + (r + 4), 30 + r, x.below(1, r + 4));
            due("11 the caller's own " + r, 0, x.below(1, r));
            due("11 the bottom's " + (r + 4), 0, x.below(2, r + 4));
        }
        due("11 put of MIN", true, x.put(3, MIN));
        due("11 register of MIN", MIN, x.register(3));
        due("11 done", 2, x.done());
        due("11 position", 0, x.position());
    }

    // Promise 12

    private static void backToOfEveryCall() {
        WindowedCalls x = new WindowedCalls();
        for (int i = 0; i < 23; i++) {
            add(x, CALL, 0, i + 1);
        }
        due("12 run", 23, x.run(200));
        due("12 depth", 24, x.depth());
        for (int d = 0; d < 23; d++) {
            due("12 backTo " + d, 23 - d, x.backTo(d));
        }
        for (int d : new int[] {23, 24, 25, -1, MIN, MAX}) {
            due("12 backTo " + d, -1, x.backTo(d));
        }
    }

    private static void backToFollowsTheReturn() {
        WindowedCalls x = new WindowedCalls();
        add(x, CALL, 0, 3);
        add(x, CALL, 0, 3);
        add(x, RETURN, 0, 0);
        add(x, CALL, 0, 5);
        add(x, RETURN, 0, 0);
        add(x, RETURN, 0, 0);
        due("12 run", 2, x.run(2));
        due("12 inner", 4, x.backTo(0));
        due("12 outer", 1, x.backTo(1));
        due("12 run out", 2, x.run(2));
        due("12 bottom", -1, x.backTo(0));
        due("12 run in", 1, x.run(1));
        due("12 second call", 2, x.backTo(0));
        due("12 none for the bottom call", -1, x.backTo(1));
    }

    // Promise 13

    private static void digestWeighs() {
        for (int r = 0; r < 8; r++) {
            WindowedCalls x = deep(30);
            x.put(r, 3);
            int own = 8 * 29 + r + 1;
            int shared = r < 4 ? 8 * 28 + r + 4 + 1 : 0;
            due("13 digest of register " + r, 3 * (own + shared), x.digest());
        }
        WindowedCalls y = new WindowedCalls();
        y.put(0, MAX);
        y.put(1, MAX);
        due("13 digest wraps", MAX + 2 * MAX, y.digest());
        y.put(7, MIN);
        y.put(6, MIN);
        due("13 digest wraps below", MAX + 2 * MAX + MIN, y.digest());
    }

    private static void digestLeavesEndedCallsOut() {
        WindowedCalls x = deep(2);
        x.put(0, 2);
        x.put(7, 5);
        due("13 digest of two calls", 2 * 5 + 2 * 9 + 5 * 16, x.digest());
        x.drop();
        x.emit(RETURN, 0, 0);
        due("13 run out", 1, x.run(1));
        due("13 digest of one call", 2 * 5, x.digest());
    }

    // Promise 14

    private static void doneAddsUp() {
        WindowedCalls x = new WindowedCalls();
        add(x, JUMP, 0, 1);
        add(x, JUMP, 0, 0);
        int sum = 0;
        for (int n = 0; n < 210; n += 10) {
            sum += x.run(n);
            due("14 done", sum, x.done());
        }
        x.drop();
        x.run(5);
        x.run(5);
        due("14 done when halted", sum + (sum % 2 == 0 ? 1 : 0), x.done());
        x.restart();
        due("14 done after restart", 0, x.done());
        due("14 run", 1, x.run(5));
        due("14 done", 1, x.done());
    }

    private static void doneOfManyCalls() {
        WindowedCalls x = new WindowedCalls();
        add(x, JUMP, 0, 0);
        for (int i = 0; i < 510; i++) {
            x.run(200);
        }
        due("14 done of 510 runs", 102000, x.done());
    }

    // Promise 15

    private static void haltIsFoundLate() {
        WindowedCalls x = new WindowedCalls();
        add(x, SET, 0, 1);
        due("15 run to the end", 1, x.run(1));
        due("15 not halted yet", false, x.halted());
        due("15 run(0)", 0, x.run(0));
        due("15 run(-1)", 0, x.run(-1));
        due("15 run(MIN)", 0, x.run(MIN));
        due("15 still not halted", false, x.halted());
        add(x, SET, 1, 2);
        due("15 run on", 1, x.run(1));
        due("15 register", 2, x.register(1));
        due("15 run into nothing", 0, x.run(1));
        due("15 halted", true, x.halted());
    }

    private static void thirtyCallsAreFoundLate() {
        WindowedCalls x = deep(30);
        due("15 not halted at 30 calls", false, x.halted());
        due("15 run(0)", 0, x.run(0));
        due("15 still not halted", false, x.halted());
        x.drop();
        x.emit(SET, 0, 4);
        due("15 run of what is there now", 1, x.run(1));
        due("15 register", 4, x.register(0));
        due("15 not halted", false, x.halted());
    }

    private static void bottomReturnIsFoundAtOnce() {
        WindowedCalls x = new WindowedCalls();
        add(x, RETURN, 0, 0);
        due("15 run(0)", 0, x.run(0));
        due("15 not halted", false, x.halted());
        due("15 run(1)", 1, x.run(1));
        due("15 halted", true, x.halted());
    }

    private static void staysHalted(String why, WindowedCalls x, Consumer<WindowedCalls> change) {
        due("15 halted " + why, true, x.halted());
        int position = x.position();
        int done = x.done();
        int depth = x.depth();
        change.accept(x);
        due("15 run " + why, 0, x.run(200));
        due("15 still halted " + why, true, x.halted());
        due("15 position " + why, position, x.position());
        due("15 done " + why, done, x.done());
        due("15 depth " + why, depth, x.depth());
        x.restart();
        due("15 not halted after restart " + why, false, x.halted());
    }

    private static void haltedStaysHalted() {
        WindowedCalls empty = new WindowedCalls();
        empty.run(1);
        staysHalted("by want, then emit", empty, x -> due("15 emit", 0, x.emit(SET, 0, 1)));
        WindowedCalls bottom = new WindowedCalls();
        bottom.emit(RETURN, 0, 0);
        bottom.run(1);
        staysHalted("by RETURN, then drop and emit", bottom, x -> {
            due("15 drop", 0, x.drop());
            due("15 emit", 0, x.emit(SET, 0, 1));
        });
        WindowedCalls full = deep(30);
        full.run(1);
        staysHalted("by 30 calls, then drop and emit", full, x -> {
            due("15 drop", 0, x.drop());
            due("15 emit", 0, x.emit(RETURN, 0, 0));
        });
        WindowedCalls put = new WindowedCalls();
        put.emit(ZERO, 0, 5);
        put.run(2);
        staysHalted("then put", put, x -> {
            due("15 put", true, x.put(0, 1));
            due("15 register", 1, x.register(0));
        });
    }

    public static void main(String[] args) {
        newObject();
        objectsAreApart();
        emitWrongArguments();
        emitAnswersPositions();
        emitKeepsTheMachine();
        unusedNumbersDoNotMatter();
        dropCountsDown();
        dropTakesTheLast();
        dropUnderTheMachine();
        restartBeginsAnew();
        restartClearsTheBottomCall();
        runCountsInstructions();
        runStopsAtTheEnd();
        runStopsAtThirtyCalls();
        returnFromThirtyCallsMakesRoom();
        setAnyRegister();
        arithmeticOfAnyRegisters();
        arithmeticWraps();
        jumpAnywhere();
        zeroJumpsAtZeroOnly();
        callSharesRegisters();
        callFindsFreshRegisters();
        callOutsideTheProgram();
        haltedOnlyByRun();
        positionFollows();
        positionBehindAFullProgram();
        depthCountsCalls();
        wrongRegisters();
        belowReachesEveryCall();
        belowSeesNoEndedCall();
        putIsShared();
        backToOfEveryCall();
        backToFollowsTheReturn();
        digestWeighs();
        digestLeavesEndedCallsOut();
        doneAddsUp();
        doneOfManyCalls();
        haltIsFoundLate();
        thirtyCallsAreFoundLate();
        bottomReturnIsFoundAtOnce();
        haltedStaysHalted();
        System.out.println(wrong == 0 ? "all promises hold" : wrong + " answers are not as due");
        if (wrong != 0) {
            System.exit(1);
        }
    }
}
