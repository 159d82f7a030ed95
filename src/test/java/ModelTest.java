import java.util.ArrayList;
import java.util.List;

/**
 * Long runs of mixed calls, each answer held against a second machine that is written another way:
 * its registers are boxes, and a call holds the very boxes that it shares with its caller.
 */
public final class ModelTest {
    private static final int RUNS = 4000;
    private static final int CALLS_OF_A_RUN = 512;

    private static final class Box {
        int value;
    }

    private static final class Frame {
        final Box[] boxes = new Box[8];
        final int back;

        Frame(Frame caller, int back) {
            this.back = back;
            for (int r = 0; r < 8; r++) {
                boxes[r] = caller != null && r < 4 ? caller.boxes[r + 4] : new Box();
            }
        }
    }

    private static final class Model {
        final List<int[]> program = new ArrayList<>();
        final List<Frame> frames = new ArrayList<>();
        int position;
        int done;
        boolean halted;

        Model() {
            restart();
        }

        void restart() {
            frames.clear();
            frames.add(new Frame(null, -1));
            position = 0;
            done = 0;
            halted = false;
        }

        int emit(int op, int regs, int n) {
            if (op < 0 || op > 7 || regs < 0 || regs > 511) {
                return -1;
            }
            if (program.size() == 24) {
                return -2;
            }
            program.add(new int[] {op, regs % 8, regs / 8 % 8, regs / 64, n});
            return program.size() - 1;
        }

        int drop() {
            if (program.isEmpty()) {
                return -1;
            }
            program.remove(program.size() - 1);
            return program.size();
        }

        int run(int n) {
            int most = Math.max(0, Math.min(200, n));
            int count = 0;
            while (!halted && count < most && step()) {
                count++;
            }
            done += count;
            return count;
        }

        private boolean step() {
            if (position < 0 || position >= program.size()) {
                halted = true;
                return false;
            }
            int[] i = program.get(position);
            Box[] own = frame(0).boxes;
            Box a = own[i[1]];
            int b = own[i[2]].value;
            int c = own[i[3]].value;
            int next = position + 1;
            if (i[0] == 0) {
                a.value = i[4];
            } else if (i[0] == 1) {
                a.value = b + c;
            } else if (i[0] == 2) {
                a.value = b - c;
            } else if (i[0] == 3) {
                next = i[4];
            } else if (i[0] == 4) {
                a.value = b;
            } else if (i[0] == 5) {
                if (frames.size() == 30) {
                    halted = true;
                    return false;
                }
                frames.add(new Frame(frame(0), next));
                next = i[4];
            } else if (i[0] == 6) {
                if (frames.size() == 1) {
                    halted = true;
                    next = position;
                } else {
                    next = frames.remove(frames.size() - 1).back;
                }
            } else if (a.value == 0) {
                next = i[4];
            }
            position = next;
            return true;
        }

        private Frame frame(int d) {
            return d < 0 || d >= frames.size() ? null : frames.get(frames.size() - 1 - d);
        }

        int below(int d, int r) {
            Frame frame = frame(d);
            return frame == null || r < 0 || r > 7 ? 0 : frame.boxes[r].value;
        }

        int put(int r, int v) {
            if (r < 0 || r > 7) {
                return 0;
            }
            frame(0).boxes[r].value = v;
            return 1;
        }

        int backTo(int d) {
            Frame frame = frame(d);
            return frame == null || d == frames.size() - 1 ? -1 : frame.back;
        }

        int digest() {
            int sum = 0;
            for (int k = 0; k < frames.size(); k++) {
                for (int r = 0; r < 8; r++) {
                    sum += (8 * k + r + 1) * frames.get(k).boxes[r].value;
                }
            }
            return sum;
        }
    }

    // A fixed sequence of numbers, so that every run of the test makes the same calls.
    private static long seed = 20261115L;

    private static int pick(int bound) {
        seed = seed * 6364136223846793005L + 1442695040888963407L;
        return (int) ((seed >>> 33) % bound);
    }

    private static final int[] ODD = {Integer.MIN_VALUE, Integer.MAX_VALUE, -1, 8, 24, 30, 512, -3};

    private static int odd() {
        return ODD[pick(ODD.length)];
    }

    private static int wrong = 0;
    private static String trace = "";

    private static void same(String call, int want, int got) {
        if (want != got) {
            wrong++;
            if (wrong <= 20) {
                System.out.println(trace + call + " answered " + got + ", due is " + want);
            }
        }
    }

    private static void emit(WindowedCalls x, Model m, int callShare) {
        int op = pick(100) < callShare ? 5 : pick(8);
        if (pick(40) == 0) {
            op = odd();
        }
        int regs = pick(40) == 0 ? odd() : pick(512);
        int n = pick(20) == 0 ? odd() : op == 0 ? pick(5) - 2 : pick(24);
        same("emit(" + op + ", " + regs + ", " + n + ")", m.emit(op, regs, n), x.emit(op, regs, n));
    }

    private static void change(WindowedCalls x, Model m, int callShare) {
        int kind = pick(30);
        if (kind < 10) {
            emit(x, m, callShare);
        } else if (kind < 12) {
            same("drop()", m.drop(), x.drop());
        } else if (kind < 14) {
            x.restart();
            m.restart();
        } else if (kind < 24) {
            int n = pick(10) == 0 ? odd() : pick(pick(3) == 0 ? 210 : 8);
            same("run(" + n + ")", m.run(n), x.run(n));
        } else {
            int r = pick(10) == 0 ? odd() : pick(8);
            int v = pick(4) == 0 ? odd() : pick(9) - 4;
            same("put(" + r + ", " + v + ")", m.put(r, v), x.put(r, v) ? 1 : 0);
        }
    }

    private static void compare(WindowedCalls x, Model m) {
        int d = pick(10) == 0 ? odd() : pick(31);
        int r = pick(10) == 0 ? odd() : pick(8);
        same("halted()", m.halted ? 1 : 0, x.halted() ? 1 : 0);
        same("position()", m.position, x.position());
        same("depth()", m.frames.size(), x.depth());
        same("register(" + r + ")", m.below(0, r), x.register(r));
        same("below(" + d + ", " + r + ")", m.below(d, r), x.below(d, r));
        same("backTo(" + d + ")", m.backTo(d), x.backTo(d));
        same("digest()", m.digest(), x.digest());
        same("done()", m.done, x.done());
    }

    public static void main(String[] args) {
        int deepest = 0;
        int fullHalts = 0;
        for (int run = 0; run < RUNS; run++) {
            WindowedCalls x = new WindowedCalls();
            Model m = new Model();
            int callShare = pick(60);
            for (int i = 0; i < 3 + pick(24); i++) {
                emit(x, m, callShare);
            }
            for (int calls = 30; calls + 9 <= CALLS_OF_A_RUN; calls += 9) {
                trace = "run " + run + ", about call " + calls + ": ";
                change(x, m, callShare);
                compare(x, m);
            }
            deepest = Math.max(deepest, m.frames.size());
            fullHalts += m.halted && m.frames.size() == 30 ? 1 : 0;
        }
        // Without these the sequence would have stopped reaching the edges it is there for.
        if (deepest < 30 || fullHalts == 0) {
            wrong++;
            System.out.println("the runs no longer reach 30 calls");
        }
        System.out.println(wrong == 0 ? "both machines agree" : wrong + " answers are not as due");
        if (wrong != 0) {
            System.exit(1);
        }
    }
}
