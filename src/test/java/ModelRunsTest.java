import java.util.Random;

/** Runs of drawn calls (the same ones each time), each answer compared with the Model's. */
public final class ModelRunsTest {
    private static final int RUNS = 400;
    private static final int CALLS = 512;

    private final Check check = new Check();
    private final Random draw;
    private final MemoryMaker x = new MemoryMaker();
    private final Model y = new Model();
    private final boolean small;
    private final StringBuilder told = new StringBuilder();

    private ModelRunsTest(int run) {
        draw = new Random(run);
        small = run % 4 != 0;
    }

    public static void main(String[] args) {
        int wrong = 0;
        for (int run = 1; run <= RUNS && wrong == 0; run++) {
            ModelRunsTest one = new ModelRunsTest(run);
            one.go();
            wrong = one.check.wrong();
            if (wrong != 0) {
                System.out.println("run " + run + one.told);
            }
        }
        System.out.println(RUNS + " runs, " + wrong + " answers not as the model's");
        if (wrong != 0) {
            System.exit(1);
        }
    }

    private void go() {
        int calls = 0;
        while (calls < CALLS && check.wrong() == 0) {
            calls += step();
        }
    }

    private void same(String call, long got, long want) {
        told.append("\n  ").append(call).append(" -> ").append(got);
        check.due(call, got, want);
    }

    private void same(String call, boolean got, boolean want) {
        same(call, got ? 1 : 0, want ? 1 : 0);
    }

    private int any(int... of) {
        return of[draw.nextInt(of.length)];
    }

    private int upTo(int most) {
        return draw.nextInt(most + 1);
    }

    private int odd() {
        return any(-1, -2, Integer.MIN_VALUE, Integer.MAX_VALUE, 1000000, draw.nextInt());
    }

    private int row() {
        return draw.nextInt(40) == 0 ? any(odd(), 511, 512) : small ? upTo(8) : upTo(Math.max(0, y.count(0) / y.count(10) - 1));
    }

    private int column() {
        return draw.nextInt(40) == 0 ? any(odd(), 255, 256) : small ? upTo(7) : upTo(Math.max(0, y.count(1) * y.count(10) - 1));
    }

    private int address() {
        return draw.nextInt(20) == 0 ? any(odd(), y.count(0), y.count(0) - 1) : small ? upTo(20) : upTo(y.count(0) - 1);
    }

    private int step() {
        int kind = draw.nextInt(40);
        if (kind < 5) {
            int what = draw.nextInt(20) == 0 ? any(odd(), 9) : upTo(8);
            int v = value(what);
            same("set(" + what + ", " + v + ")", x.set(what, v), y.set(what, v));
        } else if (kind < 11) {
            int row = row();
            int column = column();
            int bit = draw.nextInt(30) == 0 ? odd() : upTo(1);
            same("bad(" + row + ", " + column + ", " + bit + ")", x.bad(row, column, bit), y.bad(row, column, bit));
        } else if (kind < 14) {
            heal();
        } else if (kind < 21) {
            int address = address();
            int value = any(draw.nextInt(), -1, 0, 1 << upTo(31));
            same("write(" + address + ", " + value + ")", x.write(address, value), y.write(address, value));
        } else if (kind < 23) {
            same("undo()", x.undo(), y.undo());
        } else if (kind == 23 && draw.nextInt(3) == 0) {
            return text();
        } else if (kind == 24 && draw.nextInt(2) == 0) {
            int k = any(0, 1, 2, 3, -1);
            same("image(" + k + ")", x.image(k), y.image(k));
        } else if (kind == 25 && draw.nextInt(4) == 0) {
            int k = any(0, 1, 2, 3, -1);
            same("again(" + k + ")", x.again(k), y.again(k));
        } else if (kind == 26) {
            tape();
        } else {
            ask();
        }
        return 1;
    }

    private void heal() {
        int row = row();
        int column = column();
        if (y.count(9) > 0 && draw.nextInt(4) != 0) {
            int k = upTo(y.count(9) - 1);
            row = y.cell(k, 0);
            column = y.cell(k, 1);
        }
        same("heal(" + row + ", " + column + ")", x.heal(row, column), y.heal(row, column));
    }

    private int value(int what) {
        if (draw.nextInt(15) == 0) {
            return any(odd(), 0, 3, 5, 33, 48, 101, 2048);
        }
        switch (what) {
            case 0: return small ? any(16, 32, 64) : 16 << upTo(6);
            case 1: return any(upTo(32), 32, 1, 8);
            case 2: return any(0, 1, 2, 4, 8);
            case 3: return upTo(4);
            case 4: return upTo(2);
            case 7: return upTo(100);
            case 8: return upTo(2);
            default: return 1 + upTo(19);
        }
    }

    private void tape() {
        switch (draw.nextInt(4)) {
            case 0:
                int[] f = {draw.nextInt(), draw.nextInt(), draw.nextInt(), draw.nextInt(), draw.nextInt()};
                same("feed(..)", x.feed(f[0], f[1], f[2], f[3], f[4]), y.feed(f));
                break;
            case 1:
                int n = any(upTo(310), odd(), 0, y.count(16), y.count(16) + 1);
                same("end(" + n + ")", x.end(n), y.end(n));
                break;
            case 2:
                same("agree()", x.agree(), y.agree());
                break;
            default:
                same("spec()", x.spec(), y.spec());
                break;
        }
    }

    /** A text onto the tape and what is done with it. */
    private int text() {
        int calls = 3;
        x.end(0);
        y.end(0);
        String text = draw.nextInt(5) == 0 ? viewOne() : new Texts(draw).draw();
        for (int i = 0; i < text.length(); i += 20) {
            int[] f = Tapes.numbers(text, i);
            same("feed of \"" + text + "\"", x.feed(f[0], f[1], f[2], f[3], f[4]), y.feed(f));
            calls++;
        }
        int n = Math.min(text.length(), y.count(16));
        same("end(" + n + ")", x.end(n), y.end(n));
        if (draw.nextInt(6) == 0) {
            same("agree()", x.agree(), y.agree());
        } else {
            same("spec()", x.spec(), y.spec());
            same("fault(0)", x.fault(0), y.fault(0));
            same("fault(1)", x.fault(1), y.fault(1));
        }
        return calls;
    }

    private String viewOne() {
        StringBuilder s = new StringBuilder();
        for (int i = 0; i < y.view(1, -1); i++) {
            s.append((char) y.view(1, i));
        }
        if (draw.nextBoolean()) {
            s.setCharAt(upTo(s.length() - 1), (char) upTo(255));
        }
        return s.toString();
    }

    private void ask() {
        int a = address();
        switch (draw.nextInt(16)) {
            case 0: askCount(); break;
            case 1:
                int m = any(1, 2, 4, 8, 0, 3, 16, odd());
                int what = any(upTo(30), odd());
                same("shape(" + m + ", " + what + ")", x.shape(m, what), y.shape(m, what));
                break;
            case 2:
                int w = any(0, 1, 2, 3, odd());
                same("wished(" + w + ")", x.wished(w), y.wished(w));
                break;
            case 3:
                int k = any(upTo(4), odd());
                boolean column = draw.nextBoolean();
                same("given(" + k + ", " + column + ")", x.given(k, column), y.given(k, column));
                break;
            case 4:
                int c = any(upTo(12), upTo(3), odd());
                int of = any(upTo(4), odd());
                same("cell(" + c + ", " + of + ")", x.cell(c, of), y.cell(c, of));
                break;
            case 5: case 6: case 7:
                int bit = any(upTo(32), upTo(3), odd());
                int p = any(upTo(3), upTo(3), upTo(3), odd());
                same("place(" + a + ", " + bit + ", " + p + ")", x.place(a, bit, p), y.place(a, bit, p));
                break;
            case 8: case 9: case 10:
                same("read(" + a + ")", x.read(a), y.read(a));
                break;
            case 11:
                boolean ones = draw.nextBoolean();
                same("test(" + ones + ")", x.test(ones), y.test(ones));
                break;
            case 12:
                int view = any(0, 1, 2, odd());
                int i = any(upTo(250), -1, odd());
                same("view(" + view + ", " + i + ")", x.view(view, i), y.view(view, i));
                break;
            case 13:
                int width = any(upTo(6000), upTo(400), odd());
                int height = any(upTo(10000), upTo(400), odd());
                same("most(" + width + ", " + height + ")", x.most(width, height), y.most(width, height));
                break;
            case 14:
                same("fewest()", x.fewest(), y.fewest());
                break;
            default:
                int level = any(0, 1, 2, 3, -1);
                same("why(" + level + ")", x.why(level), y.why(level));
                break;
        }
    }

    private void askCount() {
        int what = any(upTo(18), odd());
        // the model looks at each cell for these, so they are asked less often
        if ((what == 14 || what == 17) && !small && draw.nextInt(8) != 0) {
            what = 9;
        }
        same("count(" + what + ")", x.count(what), y.count(what));
    }
}
