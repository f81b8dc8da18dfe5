/** Each promise of the document by itself: ordinary calls, the edges that it names, wrong calls. */
public final class PromiseTest {
    private static final int NONE = -1;
    private static final int LOW = Integer.MIN_VALUE;
    private static final int HIGH = Integer.MAX_VALUE;
    private static final String FIRST = "words 64;bits 8;mux 0;spare 1 0;cell 2 3;margin 20;wish area;";
    private static final String MADE = "size 124 100;time 386 405;rows 16 0;columns 32 0;stages 4 2 1 3 10;";

    private final Check check = new Check();

    public static void main(String[] args) {
        PromiseTest t = new PromiseTest();
        t.newObject();
        t.feed();
        t.end();
        t.spec();
        t.specTokens();
        t.specClears();
        t.fault();
        t.faultOrder();
        t.faultPlaces();
        t.set();
        t.setEdges();
        t.setUnfit();
        t.setKeepsCells();
        t.bad();
        t.heal();
        t.write();
        t.why();
        t.undo();
        t.undoCells();
        t.count();
        t.shape();
        t.shapeEdges();
        t.wished();
        t.given();
        t.givenTies();
        t.cell();
        t.place();
        t.read();
        t.test();
        t.view();
        t.agree();
        t.most();
        t.fewest();
        t.image();
        t.again();
        t.check.end();
    }

    private void due(String call, long got, long want) {
        check.due(call, got, want);
    }

    private void due(String call, boolean got, boolean want) {
        check.due(call, got, want);
    }

    private void dueSpec(String text, int mux, int fault, int place) {
        MemoryMaker x = new MemoryMaker();
        due("spec of " + text, Tapes.spec(x, text), mux);
        due("fault(0) of " + text, x.fault(0), fault);
        due("fault(1) of " + text, x.fault(1), place);
        due("tape behind " + text, x.count(16), 0);
    }

    private static String twelve() {
        StringBuilder all = new StringBuilder();
        for (int i = 0; i < 12; i++) {
            all.append("bad ").append(i).append(" 0 1;");
        }
        return all.toString();
    }

    private static MemoryMaker told(String text) {
        MemoryMaker x = new MemoryMaker();
        Tapes.spec(x, text);
        return x;
    }

    // ---- promise 1
    private void newObject() {
        MemoryMaker x = new MemoryMaker();
        int[] first = {64, 8, 0, 1, 0, 2, 3, 20, 0, 0, 4, 1, 0, 0, 0, 0, 0, 0};
        for (int what = 0; what < first.length; what++) {
            due("new: count(" + what + ")", x.count(what), first[what]);
        }
        for (int k = 0; k < 3; k++) {
            due("new: again(" + k + ")", x.again(k), false);
        }
        due("new: fault(0)", x.fault(0), 0);
        due("new: fault(1)", x.fault(1), NONE);
        due("new: why(0)", x.why(0), 0);
        due("new: undo()", x.undo(), NONE);
        check.due("new: view 0", Tapes.view(x, 0), FIRST);
        due("NONE", MemoryMaker.NONE, NONE);
    }

    // ---- promise 2
    private void feed() {
        MemoryMaker x = new MemoryMaker();
        for (int i = 1; i <= 15; i++) {
            due("feed " + i, x.feed(0, 0, 0, 0, 0), 20 * i);
        }
        due("feed of a full tape", x.feed(0, 0, 0, 0, 0), NONE);
        due("bytes of a full tape", x.count(16), 300);
        due("end(281)", x.end(281), 281);
        due("feed to 301", x.feed(0, 0, 0, 0, 0), NONE);
        due("bytes stay", x.count(16), 281);
        x.end(280);
        due("feed to 300", x.feed(-1, LOW, HIGH, 0, 1), 300);
        x = new MemoryMaker();
        // "siz" and a byte of 229, which is no sign of a view: the highest byte comes first
        x.feed(0x73697AE5, 0, 0, 0, 0);
        due("agree at a high byte", x.agree(), 3);
    }

    // ---- promise 3
    private void end() {
        MemoryMaker x = new MemoryMaker();
        due("end(0) of none", x.end(0), 0);
        due("end(1) of none", x.end(1), NONE);
        x.feed(1, 2, 3, 4, 5);
        due("end(21) of 20", x.end(21), NONE);
        due("end(-1)", x.end(-1), NONE);
        due("end(low)", x.end(LOW), NONE);
        due("bytes", x.count(16), 20);
        due("end(20)", x.end(20), 20);
        due("end(7)", x.end(7), 7);
        due("bytes of 7", x.count(16), 7);
        due("end(8) of 7", x.end(8), NONE);
    }

    // ---- promise 4
    private void spec() {
        MemoryMaker x = told("words 128;bits 16;mux 2;spare 2 1;cell 4 5;margin 0;wish square;bad 63 31 1;");
        int[] due = {128, 16, 2, 2, 1, 4, 5, 0, 2, 1, 2};
        for (int what = 0; what < due.length; what++) {
            due("told: count(" + what + ")", x.count(what), due[what]);
        }
        due("what is not told is as at first", Tapes.spec(x, "bits 9;"), x.count(10));
        due("words not told", x.count(0), 64);
        due("bad cells not told", x.count(9), 0);
        due("wish not told", x.count(8), 0);
        due("spec of nothing", new MemoryMaker().spec(), 4);
        dueSpec("", 4, 0, NONE);
        dueSpec(" \n  ", 4, 0, NONE);
        dueSpec("mux 2;mux 8;mux 1;", 1, 0, NONE);
        x = told("bad 3 4 1;bad 1 2 0;bits 4;bad 0 0 0;");
        due("bad ones are further ones", x.count(9), 3);
        due("the first", x.cell(0, 0), 3);
        due("the last", x.cell(2, 0), 0);
        due("a fault leaves all", Tapes.spec(x, "words 32;mux 3;"), NONE);
        due("words stay", x.count(0), 64);
        due("bits stay", x.count(1), 4);
        due("bad ones stay", x.count(9), 3);
    }

    private void specTokens() {
        dueSpec("words64;bits8;mux4;", 4, 0, NONE);
        dueSpec("\n words \n 000064 \n;\nmux 2 ; ", 2, 0, NONE);
        dueSpec("wish time;wish square;wish area;", 4, 0, NONE);
        dueSpec("bad 0 0 0;bad 000511 0 1;words 512;mux 1;", 1, 0, NONE);
    }

    private void specClears() {
        MemoryMaker x = new MemoryMaker();
        x.write(3, 255);
        x.write(4, 1);
        due("ones", x.count(14), 9);
        due("a fault keeps what can be undone", Tapes.spec(x, "mux;"), NONE);
        due("two acts", x.count(15), 2);
        due("ones stay", x.count(14), 9);
        Tapes.spec(x, FIRST);
        due("a spec that is alike clears cells", x.count(14), 0);
        due("and leaves none to be undone", x.undo(), NONE);
        // the place of a row that was given up is cleared, too
        x.write(5, 255);
        x.bad(1, 1, 0);
        x.write(5, 129);
        Tapes.spec(x, FIRST);
        due("cleared", x.read(5), 0);
        x.bad(1, 1, 0);
        due("the spare row is cleared", x.read(5), 0);
        x.set(0, 48);
        Tapes.spec(x, FIRST);
        due("spec is no act: why stays", x.why(0), 1);
    }

    // ---- promise 5
    private void fault() {
        MemoryMaker x = told("mux 3;");
        due("fault(0)", x.fault(0), 2);
        due("fault(1)", x.fault(1), 4);
        due("fault(2)", x.fault(2), NONE);
        due("fault(-1)", x.fault(-1), NONE);
        x.set(1, 9);
        due("stays by acts", x.fault(0), 2);
        Tapes.spec(x, "mux 4;");
        due("none", x.fault(0), 0);
        due("no place", x.fault(1), NONE);
        dueSpec("mux", NONE, 1, 3);
        dueSpec("mux 4", NONE, 1, 5);
        dueSpec("mux 4 \n", NONE, 1, 7);
        dueSpec(";", NONE, 1, 0);
        dueSpec(" 7;", NONE, 1, 1);
        dueSpec("mux 4;;", NONE, 1, 6);
        dueSpec("mux 4 4;", NONE, 1, 6);
        dueSpec("spare 1;", NONE, 1, 7);
        dueSpec("Mux 4;", NONE, 1, 0);
        dueSpec("mux\t4;", NONE, 1, 3);
        dueSpec("mux 4;\r", NONE, 1, 6);
        dueSpec("mux 4;" + (char) 233, NONE, 1, 6);
        dueSpec("muxx 4;", NONE, 1, 0);
        dueSpec("mu x 4;", NONE, 1, 0);
        dueSpec("wish 1;", NONE, 1, 5);
        dueSpec("wish wish;", NONE, 1, 5);
        dueSpec("mux area;", NONE, 1, 4);
        dueSpec("bad 1 1;", NONE, 1, 7);
        dueSpec("bad 1 1 1 1;", NONE, 1, 10);
        dueSpec("words 1234567;", NONE, 1, 6);
        dueSpec("words 0000064;", NONE, 1, 6);
        dueSpec("words 123456;", NONE, 2, 6);
        dueSpec("marginmargin 4;", NONE, 1, 0);
        dueSpec("mux -1;", NONE, 1, 4);
        dueSpec("mux;", NONE, 1, 3);
        dueSpec("wish;", NONE, 1, 4);
        dueSpec("bad;", NONE, 1, 3);
        dueSpec("bad 1;", NONE, 1, 5);
        dueSpec("tux 4;", NONE, 1, 0);
        dueSpec("muxz 4;", NONE, 1, 0);
        dueSpec("mux 4;z", NONE, 1, 6);
        faultAtCut("mux 44444", 5);
        faultAtCut("muxxxxxxx", 3);
    }

    /** Bytes that end() took away are no part of a token. */
    private void faultAtCut(String text, int n) {
        MemoryMaker x = new MemoryMaker();
        Tapes.put(x, text);
        x.end(n);
        due("spec of a cut " + text, x.spec(), NONE);
        due("fault of a cut " + text, x.fault(0), 1);
        due("place of a cut " + text, x.fault(1), n);
    }

    private void faultOrder() {
        // 1 is ahead of all others, wherever it stands
        dueSpec("mux 3;words 1;x;", NONE, 1, 14);
        dueSpec("bad 1 1 0;bad 1 1 0;mux", NONE, 1, 23);
        dueSpec("mux 3;bits 99;", NONE, 2, 4);
        dueSpec("mux 3;mux 4;", NONE, 2, 4);
        // told twice is at the row, ahead of the bit that can't be
        dueSpec("bad 1 1 0;bad 1 1 7;", NONE, 3, 14);
        dueSpec("bad 1 1 0;bad 01 001 0;", NONE, 3, 14);
        dueSpec("bad 1 1 0;bad 1 256 0;", NONE, 2, 16);
        dueSpec("bad 1 1 0;bad 1 2 0;bad 2 1 0;", 4, 0, NONE);
        dueSpec("bad 512 300 0;bad 512 300 0;", NONE, 2, 4);
        dueSpec(twelve(), 4, 0, NONE);
        int end = twelve().length();
        dueSpec(twelve() + " bad 600 0 1;", NONE, 4, end + 1);
        dueSpec(twelve() + "bad 0 0 1;", NONE, 4, end);
        dueSpec(twelve() + "mux 3;bad 0 0 1;", NONE, 2, end + 4);
        // 5 comes last, for what is told in the end
        dueSpec("mux 8;words 32;", NONE, 5, NONE);
        dueSpec("mux 8;words 32;mux 4;", 4, 0, NONE);
        dueSpec("mux 1;words 1024;", NONE, 5, NONE);
        dueSpec("mux 8;words 32;margin 101;", NONE, 2, 22);
        dueSpec("bad 16 0 0;", NONE, 5, NONE);
        dueSpec("bad 15 31 0;", 4, 0, NONE);
        dueSpec("bad 15 32 0;", NONE, 5, NONE);
        dueSpec("bad 31 15 0;mux 2;", 2, 0, NONE);
    }

    private void faultPlaces() {
        String[] wrong = {"words 8;", "words 2048;", "words 48;", "words 0;", "bits 0;", "bits 33;", "mux 3;", "mux 16;",
            "spare 5 0;", "cell 0 3;", "cell 21 3;", "margin 101;", "bad 512 0 0;"};
        for (String text : wrong) {
            dueSpec(text, NONE, 2, text.indexOf(' ') + 1);
        }
        dueSpec("spare 4 3;", NONE, 2, 8);
        dueSpec("cell 3 0;", NONE, 2, 7);
        dueSpec("cell 3 21;", NONE, 2, 7);
        dueSpec("bad 0 256 0;", NONE, 2, 6);
        dueSpec("bad 0 0 2;", NONE, 2, 8);
        dueSpec("words 16;bits 1;spare 0 0;cell 1 1;margin 0;mux 1;", 1, 0, NONE);
        dueSpec("words 1024;bits 32;spare 4 2;cell 20 20;margin 100;mux 8;bad 127 255 1;", 8, 0, NONE);
    }

    // ---- promise 6
    private void set() {
        MemoryMaker x = new MemoryMaker();
        int[] to = {128, 9, 2, 0, 1, 5, 6, 30, 1};
        for (int what = 0; what < to.length; what++) {
            due("set(" + what + ")", x.set(what, to[what]), 0);
            due("count(" + what + ")", x.count(what), to[what]);
            due("set(" + what + ") again", x.set(what, to[what]), 2);
        }
        due("set(9)", x.set(9, 1), 1);
        due("set(-1)", x.set(-1, 1), 1);
        due("set(low)", x.set(LOW, 1), 1);
        due("set(high)", x.set(HIGH, 1), 1);
    }

    private void setEdges() {
        int[][] can = {{16, 1024}, {1, 32}, {1, 8}, {0, 4}, {1, 2}, {1, 20}, {1, 20}, {0, 100}, {1, 2}};
        int[][] cant = {{8, 2048, 48, 17, 0, -16}, {0, 33, -1}, {-1, 3, 5, 16, 6}, {-1, 5}, {-1, 3}, {0, 21}, {0, 21},
            {-1, 101}, {-1, 3}};
        for (int what = 0; what < 9; what++) {
            for (int v : can[what]) {
                MemoryMaker x = new MemoryMaker();
                due("set(" + what + ", " + v + ")", x.set(what, v), 0);
                due("count(" + what + ") of " + v, x.count(what), v);
            }
            for (int v : cant[what]) {
                due("set(" + what + ", " + v + ")", new MemoryMaker().set(what, v), 1);
            }
            due("set to low", new MemoryMaker().set(what, LOW), 1);
            due("set to high", new MemoryMaker().set(what, HIGH), 1);
        }
    }

    private void setUnfit() {
        MemoryMaker x = told("bad 15 31 1;");
        due("fewer columns", x.set(1, 7), 4);
        due("of a cell outside", x.why(1), 6);
        due("mux 8 has 8 rows", x.set(2, 8), 4);
        due("of a cell outside, too", x.why(1), 6);
        due("bits stay", x.count(1), 8);
        due("nothing to be undone", x.count(15), 0);
        // the mux that is chosen changes by a number that is no layout: then a cell may lie outside
        x = new MemoryMaker();
        int m = x.count(10);
        due("a wide cell", x.set(5, 20), 0);
        due("has another mux", x.count(10) == m, false);
        x = told("bad 0 31 1;");
        due("which is refused", x.set(5, 20), 4);
        due("for a cell outside", x.why(1), 6);
        x = told("words 1024;mux 8;");
        due("not possible", x.set(2, 1), 4);
        due("of mux", x.why(1), 5);
        due("too many rows", x.why(2), 8);
    }

    private void setKeepsCells() {
        MemoryMaker x = new MemoryMaker();
        x.write(5, 163);
        due("mux 4 told", x.set(2, 4), 0);
        due("the mux that is stays", x.read(5), 163);
        int[][] harmless = {{5, 7}, {6, 7}, {7, 50}, {8, 2}, {8, 1}};
        for (int[] h : harmless) {
            due("harmless", x.set(h[0], h[1]), 0);
            due("cells stay by set(" + h[0] + ")", x.read(5), 163);
        }
        int[][] harmful = {{0, 128}, {1, 9}, {2, 2}, {3, 2}, {3, 0}, {4, 1}};
        for (int[] h : harmful) {
            MemoryMaker y = new MemoryMaker();
            y.set(2, 4);
            y.write(5, 163);
            due("harmful", y.set(h[0], h[1]), 0);
            due("cells go by set(" + h[0] + ")", y.count(14), 0);
        }
        x = new MemoryMaker();
        x.write(5, 163);
        due("a wide cell", x.set(5, 20), 0);
        due("another mux is chosen: cells go", x.count(14), 0);
    }

    // ---- promise 7
    private void bad() {
        MemoryMaker x = told("words 64;bits 8;mux 4;");
        int[][] cant = {{-1, 0, 0}, {512, 0, 0}, {0, -1, 0}, {0, 256, 0}, {0, 0, -1}, {0, 0, 2}, {LOW, LOW, LOW},
            {HIGH, HIGH, HIGH}};
        for (int[] c : cant) {
            due("bad that can't be", x.bad(c[0], c[1], c[2]), 1);
        }
        due("row outside", x.bad(16, 0, 0), 4);
        due("column outside", x.bad(0, 32, 0), 4);
        due("the far corner, outside", x.bad(511, 255, 1), 4);
        due("the corner", x.bad(15, 31, 1), 0);
        due("so already", x.bad(15, 31, 0), 2);
        due("its bit stays", x.cell(0, 2), 1);
        for (int i = 0; i < 11; i++) {
            due("bad " + i, x.bad(i, i, 0), 0);
        }
        due("twelve", x.count(9), 12);
        due("a 13th", x.bad(14, 0, 0), 3);
        due("2 is asked ahead of 3", x.bad(3, 3, 0), 2);
        due("1 is asked ahead of 3", x.bad(3, 3, 2), 1);
        due("3 is asked ahead of 4", x.bad(16, 0, 0), 3);
        due("still twelve", x.count(9), 12);
    }

    // ---- promise 8
    private void heal() {
        MemoryMaker x = told("bad 1 1 0;bad 2 2 1;bad 3 3 0;");
        due("none such", x.heal(1, 2), 2);
        due("in no memory, but could be", x.heal(511, 255), 2);
        due("row can't be", x.heal(512, 1), 1);
        due("column can't be", x.heal(1, 256), 1);
        due("row below", x.heal(-1, 1), 1);
        due("column below", x.heal(1, -1), 1);
        due("heal", x.heal(2, 2), 0);
        due("two are left", x.count(9), 2);
        due("the first", x.cell(0, 0), 1);
        due("the one behind comes up", x.cell(1, 0), 3);
        due("with its column", x.cell(1, 1), 3);
        due("with its bit", x.cell(1, 2), 0);
        due("none behind", x.cell(2, 0), NONE);
        due("no more", x.heal(2, 2), 2);
        x.bad(2, 2, 0);
        due("it comes last then", x.cell(2, 0), 2);
    }

    // ---- promise 9
    private void write() {
        MemoryMaker x = new MemoryMaker();
        due("write", x.write(63, -1), 0);
        due("its lowest bits", x.read(63), 255);
        due("so already is no reason", x.write(63, -1), 0);
        due("both are acts", x.count(15), 2);
        due("others stay", x.count(14), 8);
        due("above", x.write(64, 0), 1);
        due("below", x.write(-1, 0), 1);
        due("high", x.write(HIGH, 0), 1);
        x = told("bits 32;mux 1;");
        x.write(0, LOW);
        due("32 bits", x.read(0), LOW);
        x = told("bits 1;mux 8;");
        x.write(9, 3);
        due("1 bit", x.read(9), 1);
        due("one cell", x.count(14), 1);
        // a bad cell that is read tells its bit, and keeps what was written beneath
        x = told("spare 0 0;bad 0 0 0;");
        x.write(0, 3);
        due("stuck at 0", x.read(0), 2);
        x.heal(0, 0);
        due("written beneath", x.read(0), 3);
        // what stands in a column that is given up stays there
        x = told("spare 0 1;mux 4;");
        x.write(0, 1);
        x.bad(0, 0, 0);
        due("the spare column is 0", x.read(0), 0);
        x.write(0, 2);
        due("written beside", x.read(0), 2);
        x.heal(0, 0);
        due("the column again, with its old bit", x.read(0), 3);
        // the last of four spare rows, of the longest there can be
        x = told("words 1024;bits 32;mux 8;spare 4 2;bad 0 0 1;bad 1 1 1;bad 2 2 1;bad 127 255 1;");
        x.write(1023, LOW);
        x.write(1016, HIGH);
        due("the last address", x.read(1023), LOW);
        due("in the last row", x.place(1023, 31, 0), 131);
        due("beside it", x.read(1016), HIGH);
        due("both", x.count(14), 32);
        x = told("words 512;bits 32;mux 1;spare 4 2;bad 0 0 1;bad 1 0 1;bad 2 0 1;bad 3 0 1;bad 4 0 1;"
            + "bad 511 1 1;bad 511 2 1;bad 510 3 1;bad 510 4 1;bad 509 31 1;bad 508 31 1;");
        x.write(511, -1);
        due("two columns and two rows", x.count(12) * 10 + x.count(13), 22);
        due("bits in spare rows and columns", x.read(511), -1);
        due("the last row", x.place(511, 31, 0) * 100 + x.place(511, 31, 1), 51333);
    }

    // ---- promise 10
    private void why() {
        MemoryMaker x = new MemoryMaker();
        x.set(2, 8);
        x.set(0, 32);
        due("4", x.why(0), 4);
        due("of 5", x.why(1), 5);
        due("of 7", x.why(2), 7);
        due("level 3", x.why(3), NONE);
        due("level -1", x.why(-1), NONE);
        due("asking leaves it", x.why(0), 4);
        x.undo();
        due("undo is no act", x.why(0), 4);
        x.heal(0, 0);
        due("2", x.why(0), 2);
        due("of nothing", x.why(1), 0);
        due("nor deeper", x.why(2), 0);
        x.bad(99, 0, 0);
        due("4 again", x.why(0), 4);
        due("of 6", x.why(1), 6);
        due("no level 2", x.why(2), 0);
        x.write(0, 0);
        due("not refused", x.why(0), 0);
        due("no level 1 of it", x.why(1), 0);
        x.write(64, 0);
        due("no such address", x.why(0), 1);
    }

    // ---- promise 11
    private void undo() {
        MemoryMaker x = new MemoryMaker();
        due("none", x.undo(), NONE);
        for (int i = 1; i <= 8; i++) {
            x.set(7, i);
            due("can be undone", x.count(15), Math.min(i, 6));
        }
        x.set(7, 8);
        x.set(7, 101);
        due("refused ones are not among them", x.count(15), 6);
        for (int i = 5; i >= 0; i--) {
            due("undo", x.undo(), i);
            due("margin", x.count(7), i + 2);
        }
        due("no more", x.undo(), NONE);
        due("margin stays", x.count(7), 2);
        x.set(7, 9);
        due("one again", x.undo(), 0);
        due("back", x.count(7), 2);
        x = told("bad 1 1 0;bad 2 2 1;bad 3 3 0;");
        x.heal(2, 2);
        x.undo();
        due("healed one comes back at its place", x.cell(1, 0), 2);
        due("with its bit", x.cell(1, 2), 1);
        x.bad(4, 4, 1);
        x.undo();
        due("bad one goes", x.count(9), 3);
        x.set(7, 44);
        Tapes.put(x, "mux");
        x.undo();
        due("the tape stays", x.count(16), 3);
    }

    private void undoCells() {
        MemoryMaker x = new MemoryMaker();
        x.write(5, 163);
        x.write(5, 1);
        x.set(0, 128);
        due("cleared", x.read(5), 0);
        x.undo();
        due("cells come back", x.read(5), 1);
        due("words come back", x.count(0), 64);
        x.undo();
        due("write undone", x.read(5), 163);
        x.bad(1, 1, 0);
        x.write(5, 7);
        x.undo();
        due("the spare row is as it was", x.read(5), 0);
        x.undo();
        due("the row is as it was", x.read(5), 163);
        due("mended", x.count(12), 0);
    }

    // ---- promise 12
    private void count() {
        MemoryMaker x = told("mux 4;spare 1 1;bad 1 1 1;bad 1 2 0;bad 2 5 1;");
        due("bad", x.count(9), 3);
        due("mux", x.count(10), 4);
        due("mended", x.count(11), 1);
        due("rows", x.count(12), 1);
        due("columns", x.count(13), 1);
        due("no wrong cell", x.count(17), 0);
        x.bad(3, 7, 1);
        due("not mended", x.count(11), 0);
        due("no rows", x.count(12), 0);
        due("no columns", x.count(13), 0);
        due("ones told by bad cells", x.count(14), 3);
        due("cells that a test finds", x.count(17), 4);
        due("acts", x.count(15), 1);
        Tapes.put(x, "words");
        due("bytes", x.count(16), 5);
        due("18", x.count(18), NONE);
        due("-1", x.count(-1), NONE);
        due("low", x.count(LOW), NONE);
        x = told("words 1024;bits 32;mux 8;spare 4 2;bad 0 0 0;bad 1 0 0;bad 2 0 0;bad 3 0 0;bad 4 0 0;bad 5 9 0;");
        due("one of each", x.count(12) * 10 + x.count(13), 11);
        for (int a = 0; a < 1024; a += 3) {
            x.write(a, -1);
        }
        due("ones of many", x.count(14), 342 * 32);
    }

    // ---- promise 13
    private void shape() {
        MemoryMaker x = new MemoryMaker();
        int[] due = {16, 32, 124, 100, 12400, 386, 405, 4, 47, 248, 16, 54, 54};
        for (int what = 0; what < due.length; what++) {
            due("shape(4, " + what + ")", x.shape(4, what), due[what]);
        }
        for (int what : new int[] {-1, 13, 19, 24, 28, LOW, HIGH}) {
            due("shape(4, " + what + ")", x.shape(4, what), NONE);
        }
        for (int mux : new int[] {0, 3, 5, 16, -1, -4, LOW, HIGH}) {
            due("shape(" + mux + ", 0)", x.shape(mux, 0), NONE);
        }
        x = told("words 32;");
        due("4 rows", x.shape(8, 0), NONE);
        due("8 rows", x.shape(4, 0), 8);
        x = told("words 1024;");
        due("1024 rows", x.shape(1, 0), NONE);
        due("512 rows", x.shape(2, 0), 512);
    }

    private void shapeEdges() {
        // PATH is 21 1/3, not 21: 4.6 squared is 21.16, which is not enough
        MemoryMaker x = told("words 16;bits 1;mux 2;");
        due("n", x.shape(2, 7), 2);
        due("tenths", x.shape(2, 8), 47);
        due("delay", x.shape(2, 9), 134);
        // the last: 3 by 4 by 10 by 141; the first drives 1 times 8 by 4
        due("size of the last", x.shape(2, 21), 1);
        due("size of the first", x.shape(2, 20), 1);
        due("no third", x.shape(2, 22), NONE);
        // 128 rows and 259 columns in all: a 3, b 3, PATH 46044 4/9
        x = told("words 1024;bits 32;mux 8;spare 4 2;cell 20 20;margin 100;");
        due("n of many", x.shape(8, 7), 8);
        due("tenths of many", x.shape(8, 8), 39);
        due("delay of many", x.shape(8, 9), 8 * 39 + 120);
        due("wire of many", x.shape(8, 11), 3354);
        due("fall of many", x.shape(8, 12), 399);
        // 399 times 200 is 79800; 40 and 3990 by 5 are 838, 40 and 3990 by 6 are 705
        due("pulls of many", x.shape(8, 10), 5);
        due("height of many", x.shape(8, 3), 133 * 20 + 54);
        // 259 by 5 by 10 by 117 is 110 80/117
        due("size of the last of many", x.shape(8, 27), 111);
        due("size ahead of it", x.shape(8, 26), 29);
        due("width of many", x.shape(8, 2), 259 * 20 + 84 + 111);
        due("area of many", x.shape(8, 4), (259 * 20 + 84 + 111) * (133 * 20 + 54));
    }

    // ---- promise 14
    private void wished() {
        MemoryMaker x = told("words 256;bits 4;mux 1;cell 5 5;");
        int[] apart = new int[3];
        for (int wish = 0; wish < 3; wish++) {
            apart[wish] = x.wished(wish);
        }
        for (int mux = 1; mux <= 8; mux *= 2) {
            due("least area", x.shape(apart[0], 4) <= x.shape(mux, 4), true);
            due("least cycle", x.shape(apart[1], 6) <= x.shape(mux, 6), true);
            int of = Math.abs(x.shape(mux, 2) - x.shape(mux, 3));
            due("least apart", Math.abs(x.shape(apart[2], 2) - x.shape(apart[2], 3)) <= of, true);
        }
        due("3", x.wished(3), NONE);
        due("-1", x.wished(-1), NONE);
        due("mux told is as it is", x.count(10), 1);
        for (int wish = 0; wish < 3; wish++) {
            x.set(8, wish);
            x.set(2, 0);
            due("the mux that is", x.count(10), apart[wish]);
            x.set(2, 1);
        }
        due("not possible ones are none", told("words 16;bits 1;").wished(0) <= 2, true);
    }

    // ---- promise 15
    private void given() {
        MemoryMaker x = told("mux 4;spare 4 2;bad 9 1 1;bad 2 5 0;bad 3 7 1;");
        due("first row", x.given(0, false), 2);
        due("second row", x.given(1, false), 3);
        due("third row", x.given(2, false), 9);
        due("no fourth", x.given(3, false), NONE);
        due("no column", x.given(0, true), NONE);
        due("-1", x.given(-1, false), NONE);
        due("low", x.given(LOW, true), NONE);
        due("high", x.given(HIGH, false), NONE);
        x.set(3, 1);
        due("one row: the least", x.given(0, false), 2);
        due("and two columns", x.given(0, true), 1);
        due("the second column", x.given(1, true), 7);
        x.set(4, 1);
        due("not mended: no row", x.given(0, false), NONE);
        due("not mended: no column", x.given(0, true), NONE);
    }

    private void givenTies() {
        // one column does what three rows would do
        MemoryMaker x = told("mux 4;spare 4 2;bad 9 1 1;bad 2 1 0;bad 3 1 1;");
        due("no row", x.count(12), 0);
        due("one column", x.given(0, true), 1);
        // as few by one row as by one column: fewest columns
        x = told("mux 4;spare 1 1;bad 5 6 1;");
        due("the row", x.given(0, false), 5);
        due("no column", x.count(13), 0);
        // a row and a column in two ways: the least row
        x = told("mux 4;spare 1 1;bad 7 1 1;bad 3 9 1;");
        due("row 3", x.given(0, false), 3);
        due("column 1", x.given(0, true), 1);
        // no rows at all, more than can be
        x = told("mux 4;spare 0 2;bad 7 1 1;bad 3 9 1;bad 3 10 1;");
        due("not mended", x.count(11), 0);
        x = told("mux 4;spare 0 0;");
        due("nothing to mend", x.count(11), 1);
        // rows 1, 2, 3 with two cells each of other columns, column 0 with four
        x = told("mux 4;spare 3 1;bad 1 0 1;bad 2 0 1;bad 3 0 1;bad 4 0 1;bad 1 5 1;bad 2 6 1;");
        due("column and two rows", x.count(12) * 10 + x.count(13), 21);
        due("row 1", x.given(0, false), 1);
        due("row 2", x.given(1, false), 2);
        // two columns or one row and one column: of two in all the one with fewest columns
        x = told("mux 4;spare 1 2;bad 1 0 1;bad 2 0 1;bad 9 3 1;");
        due("row 9", x.given(0, false), 9);
        due("column 0", x.given(0, true), 0);
        due("no second column", x.given(1, true), NONE);
    }

    // ---- promise 16
    private void cell() {
        MemoryMaker x = told("spare 1 0;bad 7 1 1;");
        due("row", x.cell(0, 0), 7);
        due("column", x.cell(0, 1), 1);
        due("bit", x.cell(0, 2), 1);
        due("given up", x.cell(0, 3), 1);
        due("what 4", x.cell(0, 4), NONE);
        due("what -1", x.cell(0, -1), NONE);
        due("k 1", x.cell(1, 0), NONE);
        due("k -1", x.cell(-1, 0), NONE);
        due("k 12", x.cell(12, 3), NONE);
        x.bad(8, 2, 0);
        due("not given up", x.cell(0, 3), 0);
        due("nor that", x.cell(1, 3), 0);
    }

    // ---- promise 17
    private void place() {
        MemoryMaker x = told("mux 4;spare 2 1;bad 0 0 1;bad 1 0 1;bad 2 0 1;bad 9 13 1;");
        due("row of 37", x.place(37, 3, 0), 16);
        due("column of 37, 3", x.place(37, 3, 1), 13);
        due("column of 0, 0", x.place(0, 0, 1), 32);
        due("row of 0, 0", x.place(0, 0, 0), 0);
        due("both", x.place(36, 0, 0) * 100 + x.place(36, 0, 1), 1632);
        due("another row", x.place(63, 7, 0), 15);
        due("another column", x.place(63, 7, 1), 31);
        x.write(36, 1);
        due("the bit in both spares", x.place(36, 0, 2), 1);
        due("not told by a bad one", x.place(36, 0, 3), 0);
        int[][] none = {{64, 0, 0}, {-1, 0, 0}, {0, 8, 0}, {0, -1, 0}, {0, 0, 4}, {0, 0, -1}, {LOW, HIGH, 0}};
        for (int[] p : none) {
            due("none such", x.place(p[0], p[1], p[2]), NONE);
        }
        x = told("mux 4;spare 0 0;bad 9 13 1;");
        due("told", x.place(37, 3, 2), 1);
        due("by a bad one", x.place(37, 3, 3), 1);
        due("the next is not", x.place(37, 2, 3), 0);
        due("nor that of the next address", x.place(38, 3, 3), 0);
    }

    // ---- promise 18
    private void read() {
        MemoryMaker x = told("words 16;bits 32;mux 1;spare 0 0;bad 3 31 1;");
        due("its sign, too", x.read(3), LOW);
        x.write(3, 5);
        due("both", x.read(3), LOW + 5);
        due("others", x.read(2), 0);
        due("above", x.read(16), 0);
        due("below", x.read(-1), 0);
        due("high", x.read(HIGH), 0);
        x = told("mux 8;bits 2;spare 0 2;bad 3 6 1;bad 4 7 1;");
        for (int a = 0; a < 64; a++) {
            x.write(a, a);
        }
        for (int a = 0; a < 64; a++) {
            due("read(" + a + ")", x.read(a), a & 3);
        }
    }

    // ---- promise 19
    private void test() {
        MemoryMaker x = told("spare 0 0;bad 1 1 1;bad 2 2 0;bad 3 3 0;");
        x.write(0, 77);
        due("zeros", x.test(false), 1);
        due("ones", x.test(true), 2);
        due("nothing stays of it", x.read(0), 77);
        due("no act", x.count(15), 1);
        x.set(3, 3);
        due("mended, zeros", x.test(false), 0);
        due("mended, ones", x.test(true), 0);
    }

    // ---- promise 20
    private void view() {
        MemoryMaker x = new MemoryMaker();
        check.due("view 0", Tapes.view(x, 0), FIRST);
        check.due("view 1", Tapes.view(x, 1), MADE);
        due("none behind 0", x.view(0, FIRST.length()), NONE);
        due("none behind 1", x.view(1, MADE.length()), NONE);
        for (int i : new int[] {-2, LOW, HIGH}) {
            due("no byte " + i, x.view(0, i), NONE);
        }
        due("view 2", x.view(2, NONE), NONE);
        due("view -1", x.view(-1, 0), NONE);
        String full = "words 1024;bits 32;mux 8;spare 4 2;cell 20 20;margin 100;wish square;";
        StringBuilder bads = new StringBuilder();
        for (int i = 0; i < 12; i++) {
            bads.append("bad ").append(127 - i).append(" 255 ").append(i & 1).append(";");
        }
        x = new MemoryMaker();
        due("a long text", Tapes.spec(x, full + bads), 8);
        check.due("told as it came", Tapes.view(x, 0), full + bads);
        MemoryMaker y = told(Tapes.view(x, 0));
        check.due("the view is a text that tells the spec", Tapes.view(y, 1), Tapes.view(x, 1));
        check.due("given up", Tapes.view(x, 1).contains("rows 128 0;columns 256 1;") ? "yes" : "no", "yes");
        x = told("wish time;mux 0;");
        check.due("time", Tapes.view(x, 0), FIRST.replace("area", "time"));
    }

    // ---- promise 21
    private void agree() {
        MemoryMaker x = new MemoryMaker();
        due("no bytes", x.agree(), 0);
        Tapes.put(x, MADE);
        due("alike", x.agree(), NONE);
        due("taken", x.count(16), 0);
        Tapes.put(x, MADE.substring(0, 66));
        due("one fewer", x.agree(), 66);
        Tapes.put(x, MADE + " ");
        due("one more", x.agree(), 67);
        Tapes.put(x, MADE.replace("405", "406"));
        due("another", x.agree(), MADE.indexOf("405") + 2);
        due("taken, too", x.count(16), 0);
        Tapes.put(x, "size 124  100;");
        due("blanks count", x.agree(), 9);
    }

    // ---- promise 22
    private void most() {
        MemoryMaker x = new MemoryMaker();
        due("most", x.most(124, 100), 64);
        due("one narrower", x.most(123, 100), 32);
        due("one lower", x.most(124, 99), 32);
        due("all", x.most(HIGH, HIGH), 1024);
        due("none", x.most(0, 0), NONE);
        // 16 words by mux 1: 9 columns and 18 rows in all
        due("fewest words, least wide", x.most(9 * 2 + 48 + x16(), 18 * 3 + 30), 16);
        due("one narrower than that", x.most(9 * 2 + 47 + x16(), 18 * 3 + 30), NONE);
        due("below", x.most(LOW, HIGH), NONE);
        due("below, too", x.most(HIGH, -1), NONE);
        x = told("mux 8;bad 0 63 1;");
        due("by mux 0 and without bad cells", x.most(124, 100), 64);
        x = told("words 1024;");
        for (int mux = 2; mux <= 8; mux *= 2) {
            due("just so much", x.most(x.shape(mux, 2), x.shape(mux, 3)), 1024);
        }
        due("all else stays", x.count(0), 1024);
    }

    private static int x16() {
        MemoryMaker x = told("words 16;");
        return x.shape(1, 19 + x.shape(1, 7));
    }

    // ---- promise 23
    private void fewest() {
        MemoryMaker x = new MemoryMaker();
        due("no bad cell", x.fewest(), 0);
        x = told("mux 4;spare 0 0;bad 0 0 0;bad 1 1 0;bad 2 2 0;bad 3 3 0;");
        due("four rows", x.fewest(), 4);
        x.bad(3, 9, 1);
        due("four still", x.fewest(), 4);
        x.bad(4, 4, 1);
        due("five", x.fewest(), NONE);
        x.set(4, 1);
        due("four and a column", x.fewest(), 4);
        x.set(4, 2);
        due("three and two columns", x.fewest(), 3);
        x = told("mux 4;spare 4 2;bad 0 0 0;bad 1 1 0;bad 2 2 0;");
        due("as few rows as can be, with columns", x.fewest(), 1);
        due("though more rows are given up", x.count(12), 3);
        due("nothing changes", x.count(3), 4);
    }

    // ---- promise 24
    private void image() {
        MemoryMaker x = new MemoryMaker();
        due("image(3)", x.image(3), false);
        due("image(-1)", x.image(-1), false);
        due("image(low)", x.image(LOW), false);
        x.write(5, 163);
        Tapes.spec(x, "mux 3;");
        x.write(99, 1);
        Tapes.put(x, "words 16;");
        due("image(2)", x.image(2), true);
        due("acts stay", x.count(15), 1);
        x.end(2);
        x.write(5, 0);
        x.write(0, 0);
        Tapes.spec(x, "mux 2;");
        due("again(2)", x.again(2), true);
        due("cells", x.read(5), 163);
        due("why", x.why(0), 1);
        due("fault", x.fault(0), 2);
        due("its place", x.fault(1), 4);
        due("tape", x.count(16), 9);
        due("mux", x.count(2), 0);
        x.spec();
        due("the tape's bytes", x.count(0), 16);
        x = new MemoryMaker();
        x.set(2, 8);
        x.set(0, 32);
        x.image(1);
        x.set(0, 64);
        x.again(1);
        due("why, level 1", x.why(1), 5);
        due("why, level 2", x.why(2), 7);
        x.set(7, 99);
        x.image(2);
        x.set(7, 98);
        x.again(2);
        due("the latest image", x.count(7), 99);
    }

    // ---- promise 25
    private void again() {
        MemoryMaker x = new MemoryMaker();
        x.set(7, 1);
        x.image(0);
        x.set(7, 2);
        x.bad(1, 1, 1);
        x.image(1);
        due("none such", x.again(2), false);
        due("another k", x.again(3), false);
        due("below", x.again(-1), false);
        due("nothing changes by those", x.count(15), 3);
        due("again(0)", x.again(0), true);
        due("margin", x.count(7), 1);
        due("no bad cell", x.count(9), 0);
        due("nothing given up", x.count(12), 0);
        due("nothing to be undone", x.undo(), NONE);
        due("images stay", x.again(1), true);
        due("margin of 1", x.count(7), 2);
        due("row given up", x.given(0, false), 1);
        x.set(7, 3);
        due("once more", x.again(0), true);
        due("an image is not changed", x.count(7), 1);
        x.write(0, 255);
        x.again(0);
        due("nor its cells", x.read(0), 0);
    }
}
