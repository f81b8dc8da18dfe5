/** The document's terms, 1: the numbers of a SPEC and what follows from them by a mux; a test for each sentence. */
public final class SpecSentencesTest {
    private static final int NONE = -1;
    private static final int LOW = Integer.MIN_VALUE;
    private static final int HIGH = Integer.MAX_VALUE;
    private static final int[] MUXES = {1, 2, 4, 8};
    private static final String[] LINES = {"words %d;", "bits %d;", "mux %d;", "spare %d 0;", "spare 1 %d;", "cell %d 3;",
        "cell 2 %d;", "margin %d;"};

    private final Sentences s = new Sentences("terms 1");

    public static void main(String[] args) {
        SpecSentencesTest t = new SpecSentencesTest();
        t.numbers();
        t.mux();
        t.stages();
        t.sizes();
        t.extents();
        t.times();
        t.choice();
        t.fit();
        t.s.end();
    }

    private void numbers() {
        words();
        bits();
        muxNumber();
        spareRows();
        spareColumns();
        wideAndHigh();
        margin();
        wish();
        twelveBad();
    }

    private void mux() {
        rowsAndColumns();
        possible();
        allRowsAndColumns();
        linesAndFold();
    }

    private void stages() {
        stageNumbers();
        inputs();
        path();
        tenths();
        delay();
        leastDelay();
    }

    private void sizes() {
        sizesRoundedUp();
        driven();
    }

    private void extents() {
        width();
        height();
        area();
    }

    private void times() {
        wire();
        fall();
        senseAndRead();
        pulls();
        pullsOne();
        cycle();
    }

    private void choice() {
        muxTold();
        muxByWish();
        muxOfSeveral();
        muxAlways();
    }

    private void fit() {
        fitMux();
        fitBad();
    }

    /** A number as at first, those that can be and those that can't, by set() and by a TEXT. */
    private void range(int what, int first, int[] can, int[] cant) {
        s.due("new: count(" + what + ")", new MemoryMaker().count(what), first);
        s.due("spec of nothing: count(" + what + ")", Tapes.told("").count(what), first);
        for (int v : can) {
            MemoryMaker x = new MemoryMaker();
            s.due("set(" + what + ", " + v + ")", x.set(what, v), v == first ? 2 : 0);
            s.due("count(" + what + ")", x.count(what), v);
            String text = String.format(LINES[what], v);
            s.due("spec of " + text, Tapes.spec(x, text) != NONE, true);
            s.due("count(" + what + ") of " + text, x.count(what), v);
        }
        for (int v : cant) {
            MemoryMaker x = new MemoryMaker();
            s.due("set(" + what + ", " + v + ")", x.set(what, v), 1);
            s.due("why of set(" + what + ", " + v + ")", x.why(0), 1);
            s.due("count(" + what + ") stays", x.count(what), first);
            if (v >= 0 && v <= 999999) {
                String text = String.format(LINES[what], v);
                s.due("spec of " + text, Tapes.spec(x, text), NONE);
                s.due("fault of " + text, x.fault(0), 2);
            }
        }
    }

    private void words() {
        s.says("terms 1", "A SPEC: WORDS, a power of 2, 16 .. 1024 (64 at first);");
        // the lowest int is a power of 2 by its bits
        range(0, 64, new int[] {16, 32, 64, 128, 256, 512, 1024},
            new int[] {0, 1, 2, 4, 8, 15, 17, 48, 63, 65, 1023, 1025, 2048, 999999, -16, -64, LOW, HIGH, 1 << 30});
    }

    private void bits() {
        s.says("terms 1", "BITS, 1 .. 32 (8);");
        int[] can = new int[32];
        for (int i = 0; i < 32; i++) {
            can[i] = i + 1;
        }
        range(1, 8, can, new int[] {0, 33, 34, 64, -1, LOW, HIGH});
    }

    private void muxNumber() {
        s.says("terms 1", "MUX, 0 (it is chosen), 1, 2, 4, 8 (0);");
        range(2, 0, new int[] {0, 1, 2, 4, 8}, new int[] {3, 5, 6, 7, 9, 16, 32, -1, -2, -8, LOW, HIGH});
        MemoryMaker x = Tapes.told("mux 8;");
        s.due("the mux that is told", x.count(10), 8);
        x.set(2, 0);
        s.due("the mux that is chosen", x.count(10), 4);
    }

    private void spareRows() {
        s.says("terms 1", "SPARE ROWS, 0 .. 4 (1),");
        range(3, 1, new int[] {0, 1, 2, 3, 4}, new int[] {5, 6, 100, -1, LOW, HIGH});
    }

    private void spareColumns() {
        s.says("terms 1", "SPARE COLUMNS, 0 .. 2 (0);");
        range(4, 0, new int[] {0, 1, 2}, new int[] {3, 4, 100, -1, LOW, HIGH});
    }

    private void wideAndHigh() {
        s.says("terms 1", "the CELL's WIDE and HIGH, 1 .. 20 each (2, 3);");
        range(5, 2, new int[] {1, 2, 3, 19, 20}, new int[] {0, 21, 22, -1, LOW, HIGH});
        range(6, 3, new int[] {1, 2, 3, 19, 20}, new int[] {0, 21, 22, -1, LOW, HIGH});
    }

    private void margin() {
        s.says("terms 1", "MARGIN, 0 .. 100 (20);");
        range(7, 20, new int[] {0, 1, 20, 99, 100}, new int[] {101, 102, 1000, -1, LOW, HIGH});
    }

    private void wish() {
        s.says("terms 1", "WISH: 0 area, 1 time, 2 square (0).");
        s.due("new: count(8)", new MemoryMaker().count(8), 0);
        String[] names = {"area", "time", "square"};
        for (int wish = 0; wish < 3; wish++) {
            MemoryMaker x = Tapes.told("wish " + names[wish] + ";");
            s.due("wish " + names[wish], x.count(8), wish);
            x = new MemoryMaker();
            s.due("set(8, " + wish + ")", x.set(8, wish), wish == 0 ? 2 : 0);
            s.due("view 0 of " + wish, Tapes.view(x, 0).endsWith("wish " + names[wish] + ";"), true);
        }
        for (int v : new int[] {3, 4, -1, LOW, HIGH}) {
            s.due("set(8, " + v + ")", new MemoryMaker().set(8, v), 1);
        }
    }

    private void twelveBad() {
        s.says("terms 1", "BAD cells, 12 at most: a ROW, a COLUMN, the bit at which it is STUCK.");
        MemoryMaker x = new MemoryMaker();
        s.due("none at first", x.count(9), 0);
        for (int i = 0; i < 12; i++) {
            s.due("bad cell " + i, x.bad(i, 2 * i, i & 1), 0);
            s.due("its row", x.cell(i, 0), i);
            s.due("its column", x.cell(i, 1), 2 * i);
            s.due("its bit", x.cell(i, 2), i & 1);
        }
        s.due("a 13th", x.bad(12, 0, 0), 3);
        s.due("twelve", x.count(9), 12);
        s.due("the 12th is as it was", x.cell(11, 1), 22);
        s.due("no 13th", x.cell(12, 0), NONE);
        s.due("one is healed", x.heal(0, 0), 0);
        s.due("there is room for one again", x.bad(12, 0, 0), 0);
        s.due("twelve again", x.count(9), 12);
    }

    private void rowsAndColumns() {
        s.says("terms 1", "By a mux m (1, 2, 4, 8): ROWS: WORDS by m; COLUMNS: BITS times m;");
        for (int bits : new int[] {1, 8, 32}) {
            MemoryMaker x = Tapes.told("words 64;bits " + bits + ";");
            for (int m : MUXES) {
                s.due("rows by " + m, x.shape(m, 0), 64 / m);
                s.due("columns by " + m, x.shape(m, 1), bits * m);
            }
        }
        for (int m : new int[] {0, 3, 5, 6, 7, 9, 16, -1, -2, -4, -8, LOW, HIGH}) {
            for (int what = 0; what < 30; what++) {
                s.due("shape(" + m + ", " + what + ")", new MemoryMaker().shape(m, what), NONE);
            }
        }
    }

    private void possible() {
        s.says("terms 1", "it is POSSIBLE, if ROWS are 8 .. 512.");
        for (int words = 16; words <= 1024; words *= 2) {
            MemoryMaker x = Tapes.told("words " + words + ";");
            for (int m : MUXES) {
                int rows = words / m;
                boolean is = rows >= 8 && rows <= 512;
                s.due(words + " words by " + m, x.shape(m, 0), is ? rows : NONE);
                s.due("set mux " + m + " of " + words, x.set(2, m), is ? 0 : 4);
            }
        }
        s.due("4 rows", Tapes.told("words 16;").shape(4, 0), NONE);
        s.due("8 rows", Tapes.told("words 16;").shape(2, 0), 8);
        s.due("512 rows", Tapes.told("words 1024;").shape(2, 0), 512);
        s.due("1024 rows", Tapes.told("words 1024;").shape(1, 0), NONE);
    }

    private void allRowsAndColumns() {
        s.says("terms 1", "ALL ROWS: ROWS, SPARE ROWS and 1; ALL COLUMNS: COLUMNS, SPARE COLUMNS and 1.");
        for (int spare = 0; spare <= 4; spare++) {
            MemoryMaker x = Tapes.told("spare " + spare + " 0;");
            s.due("3 times all rows", x.shape(4, 12), 3 * (16 + spare + 1));
        }
        // 33, 34 and 35, each times itself, by 20
        int[] wires = {54, 57, 61};
        for (int spare = 0; spare <= 2; spare++) {
            s.due("wire of all columns", Tapes.told("spare 1 " + spare + ";").shape(4, 11), wires[spare]);
        }
    }

    private void linesAndFold() {
        s.says("terms 1", "LINES: how often 2 is in ROWS (2 to the LINES is ROWS); FOLD: 2 to the FOLD is m.");
        for (int words = 16; words <= 1024; words *= 2) {
            MemoryMaker x = Tapes.told("words " + words + ";spare 0 0;cell 1 1;bits 3;");
            for (int fold = 0; fold <= 3; fold++) {
                int m = MUXES[fold];
                int rows = x.shape(m, 0);
                if (rows != NONE) {
                    int lines = (x.shape(m, 2) - (3 * m + 1) - x.shape(m, 19 + x.shape(m, 7))) / 12;
                    s.due("2 to the lines", 1 << lines, rows);
                    s.due("fold of " + m, x.shape(m, 3) - (rows + 1) - 30, 8 * fold);
                }
            }
        }
    }

    private void stageNumbers() {
        s.says("terms 1", "STAGES of its decoder: n of 2, 4, 6, 8: the first one a gate of a inputs, then n - 2 gates of "
            + "1 input, the last one a gate of b inputs:");
        String[] texts = {"words 16;bits 1;mux 1;", "words 16;bits 17;mux 1;", "words 64;mux 1;", "words 512;mux 1;"};
        for (int i = 0; i < 4; i++) {
            MemoryMaker x = Tapes.told(texts[i]);
            int n = 2 * i + 2;
            s.due("n of " + texts[i], x.shape(1, 7), n);
            s.due("the first stage", x.shape(1, 20) > 0, true);
            s.due("the last stage", x.shape(1, 19 + n) > 0, true);
            s.due("no stage behind it", x.shape(1, 20 + n), NONE);
        }
        for (int words = 16; words <= 1024; words *= 2) {
            for (int bits = 1; bits <= 32; bits++) {
                MemoryMaker x = Tapes.told("words " + words + ";bits " + bits + ";spare 0 2;");
                for (int m : MUXES) {
                    int n = x.shape(m, 7);
                    s.due("n is one of these", n == NONE || n == 2 || n == 4 || n == 6 || n == 8, true);
                }
            }
        }
    }

    private void inputs() {
        s.says("terms 1", "a is 3, if LINES are 5 or more, else 2; b is LINES by a, rounded up.");
        // LINES 3 and 4: 2 and 2; 5 and 6: 3 and 2; 7, 8 and 9: 3 and 3
        int[] both = {4, 4, 5, 5, 6, 6, 6};
        for (int i = 0; i < 7; i++) {
            int words = i == 0 ? 16 : 8 << i;
            int m = i == 0 ? 2 : 1;
            MemoryMaker x = Tapes.told("words " + words + ";");
            int n = x.shape(m, 7);
            s.due("a and b of " + (8 << i) + " rows", (x.shape(m, 9) - n * x.shape(m, 8)) / 10 - n + 2, both[i]);
        }
        // 32 rows: 17 times 2 and 2 times 10 by 150 are 4 and more; were b 3, it would be 6
        s.due("b of 5 lines", new MemoryMaker().shape(2, 23), 5);
        // 16 rows: 33 times 2 and 2 times 10 by 141 are 9 and more
        s.due("b of 4 lines", new MemoryMaker().shape(4, 23), 10);
    }

    private void path() {
        s.says("terms 1", "PATH: a and 2, times b and 2, times ROWS, times ALL COLUMNS, by 18.");
        // 4 by 4 by 8 by 3 by 18 is 21 1/3: 4.6 to the 2 is less than that, though not less than 21
        MemoryMaker x = Tapes.told("words 16;bits 1;mux 2;");
        s.due("n of 21 1/3", x.shape(2, 7), 2);
        s.due("tenths of 21 1/3", x.shape(2, 8), 47);
        // 4 by 4 by 16 by 24 by 18 is 341 1/3: 4.3 to the 4 is 341.8801, which is less than 342
        x = Tapes.told("words 16;bits 23;mux 1;");
        s.due("n of 341 1/3", x.shape(1, 7), 4);
        s.due("tenths of 341 1/3", x.shape(1, 8), 43);
        // 5 by 5 by 128 by 259 by 18 is 46044 4/9: 3.9 to the 8 is 53519 and more, 3.8 to it 43477 and more
        x = Tapes.told("words 1024;bits 32;mux 8;spare 0 2;");
        s.due("tenths of 46044 4/9", x.shape(8, 8), 39);
    }

    private void tenths() {
        s.says("terms 1", "TENTHS of n: the least whole t, so that t by 10, to the n, is PATH or more.");
        // 4 by 4 by 16 by 18 by 18 is 256, which is just 4 to the 4
        s.due("just so much", Tapes.told("words 16;bits 17;mux 1;").shape(1, 8), 40);
        s.due("one column more", Tapes.told("words 16;bits 18;mux 1;").shape(1, 8), 41);
        // 17 columns: 241.78, and 3.9 to the 4 is 231.34
        s.due("one column fewer", Tapes.told("words 16;bits 16;mux 1;").shape(1, 8), 40);
        // the most that PATH can be: 5 by 5 by 512 by 67 by 18 is 47644 4/9
        s.due("512 rows", Tapes.told("words 1024;bits 32;mux 2;spare 0 2;").shape(2, 8), 39);
    }

    private void delay() {
        s.says("terms 1", "DELAY of n: n times t and 10 times a, b and n - 2 together.");
        s.due("n 2", Tapes.told("words 16;bits 1;mux 2;").shape(2, 9), 2 * 47 + 10 * (2 + 2));
        s.due("n 4", Tapes.told("words 16;bits 17;mux 1;").shape(1, 9), 4 * 40 + 10 * (2 + 2 + 2));
        s.due("n 6", new MemoryMaker().shape(1, 9), 6 * 30 + 10 * (3 + 2 + 4));
        s.due("n 8", Tapes.told("words 1024;bits 32;mux 8;spare 0 2;").shape(8, 9), 8 * 39 + 10 * (3 + 3 + 6));
    }

    private void leastDelay() {
        s.says("terms 1", "n is that with the least DELAY, of several the least.");
        // PATH 35 5/9: 2 times 60 and 40 are as much as 4 times 25 and 60
        MemoryMaker x = Tapes.told("words 16;bits 2;mux 2;");
        s.due("2 of 2 and 4", x.shape(2, 7), 2);
        s.due("tenths of 2", x.shape(2, 8), 60);
        s.due("delay of both", x.shape(2, 9), 160);
        // PATH 455 1/9: 4 times 47 and 60 are as much as 6 times 28 and 80
        x = Tapes.told("words 16;bits 30;spare 1 1;mux 1;");
        s.due("4 of 4 and 6", x.shape(1, 7), 4);
        s.due("tenths of 4", x.shape(1, 8), 47);
        s.due("delay of these", x.shape(1, 9), 248);
        // PATH 4800: 6 times 42 and 100 are as much as 8 times 29 and 120
        x = Tapes.told("words 128;bits 25;spare 1 1;mux 1;");
        s.due("6 of 6 and 8", x.shape(1, 7), 6);
        s.due("tenths of 6", x.shape(1, 8), 42);
        s.due("delay of those", x.shape(1, 9), 352);
    }

    private void dueSizes(String text, int m, int... sizes) {
        MemoryMaker x = Tapes.told(text);
        s.due("n of " + text, x.shape(m, 7), sizes.length);
        for (int i = 0; i < sizes.length; i++) {
            s.due("size " + i + " of " + text, x.shape(m, 20 + i), sizes[i]);
        }
    }

    private void sizesRoundedUp() {
        s.says("terms 1", "SIZES, from the last stage to the first: what a stage DRIVES, times its inputs and 2, times 10, "
            + "by 3 times t, rounded up:");
        // 720 by 120 is 6, nothing to be rounded; 180 by 120; 60 by 120; 160 by 120
        dueSizes("words 16;bits 17;mux 1;", 1, 2, 1, 2, 6);
        // 1320 by 141; 300 by 141; 90 by 141; 160 by 141
        dueSizes("words 64;bits 8;mux 4;", 4, 2, 1, 3, 10);
        // 120 by 141, and 1 times 8 by 4 times 4 times 10 by 141: no size is less than 1
        dueSizes("words 16;bits 1;mux 2;", 2, 1, 1);
        // 720 by 90 is 8; 240 by 90; 90 by 90 is 1; 30 by 90; 30 by 90; 200 by 90
        dueSizes("words 32;bits 17;mux 1;", 1, 3, 1, 1, 1, 3, 8);
    }

    private void driven() {
        s.says("terms 1", "the last one DRIVES ALL COLUMNS, each other one the SIZE of the next; the first one that times "
            + "ROWS by 2 to the a, rounded up.");
        // 64 rows by 8: the first one drives 8; 8 times 5 times 10 by 90
        dueSizes("words 64;bits 8;mux 1;", 1, 5, 1, 1, 1, 2, 4);
        // 512 rows by 8: it drives 64; 64 times 5 times 10 by 90
        dueSizes("words 512;bits 8;mux 1;", 1, 36, 1, 1, 1, 1, 1, 2, 5);
        // 259 times 5 times 10 by 117 is 110 and more; then by 3.9: 28.5, 7.4, 2.05, 0.8; 1 times 16 times 50 by 117
        dueSizes("words 1024;bits 32;mux 8;spare 0 2;", 8, 7, 1, 1, 1, 3, 8, 29, 111);
        // n 2: the first one drives the last one's size, 1, times 16 by 4
        dueSizes("words 16;bits 1;mux 1;", 1, 1, 1);
    }

    private void width() {
        s.says("terms 1", "WIDTH: ALL COLUMNS times WIDE, 12 times LINES, and the SIZE of the last stage.");
        s.due("by 4", new MemoryMaker().shape(4, 2), 33 * 2 + 12 * 4 + 10);
        s.due("the least", Tapes.told("words 16;bits 1;spare 0 0;cell 1 1;").shape(2, 2), 3 + 12 * 3 + 1);
        s.due("the most", Tapes.told("words 1024;bits 32;spare 4 2;cell 20 20;").shape(8, 2), 259 * 20 + 12 * 7 + 111);
        s.due("high does not count", Tapes.told("cell 2 20;").shape(4, 2), 124);
    }

    private void height() {
        s.says("terms 1", "HEIGHT: ALL ROWS times HIGH, 30, and 8 times FOLD.");
        for (int fold = 0; fold <= 3; fold++) {
            int m = MUXES[fold];
            s.due("by " + m, new MemoryMaker().shape(m, 3), (64 / m + 2) * 3 + 30 + 8 * fold);
        }
        s.due("the least", Tapes.told("words 16;spare 0 0;cell 1 1;").shape(2, 3), 9 + 30 + 8);
        s.due("the most", Tapes.told("words 1024;spare 4 0;cell 1 20;").shape(2, 3), 517 * 20 + 30 + 8);
        s.due("wide does not count", Tapes.told("cell 20 3;").shape(4, 3), 100);
    }

    private void area() {
        s.says("terms 1", "AREA: both multiplied.");
        s.due("by 4", new MemoryMaker().shape(4, 4), 124 * 100);
        MemoryMaker x = Tapes.told("words 1024;bits 32;spare 4 2;cell 20 20;");
        s.due("the most", x.shape(2, 4), x.shape(2, 2) * x.shape(2, 3));
        s.due("the most by 8", x.shape(8, 4), (259 * 20 + 84 + 111) * (133 * 20 + 54));
    }

    private void wire() {
        s.says("terms 1", "WIRE: ALL COLUMNS times itself by 20, downwards.");
        s.due("33: 1089 by 20", new MemoryMaker().shape(4, 11), 54);
        s.due("2: 4 by 20", Tapes.told("bits 1;").shape(1, 11), 0);
        s.due("4: 16 by 20", Tapes.told("bits 3;").shape(1, 11), 0);
        s.due("5: 25 by 20", Tapes.told("bits 4;").shape(1, 11), 1);
        s.due("10: 100 by 20", Tapes.told("bits 9;").shape(1, 11), 5);
        s.due("259: 67081 by 20", Tapes.told("bits 32;spare 0 2;").shape(8, 11), 3354);
    }

    private void fall() {
        s.says("terms 1", "FALL: 3 times ALL ROWS.");
        s.due("the fewest rows", Tapes.told("words 16;spare 0 0;").shape(2, 12), 27);
        s.due("18 rows", new MemoryMaker().shape(4, 12), 54);
        s.due("the most rows", Tapes.told("words 512;spare 4 0;").shape(1, 12), 1551);
    }

    private void senseAndRead() {
        s.says("terms 1", "SENSE: 20 and 5 times FOLD. READ: DELAY, WIRE, FALL, SENSE together.");
        MemoryMaker x = new MemoryMaker();
        for (int fold = 0; fold <= 3; fold++) {
            int m = MUXES[fold];
            s.due("sense by " + m, x.shape(m, 5) - x.shape(m, 9) - x.shape(m, 11) - x.shape(m, 12), 20 + 5 * fold);
        }
        s.due("read by 4", x.shape(4, 5), 248 + 54 + 54 + 30);
        s.due("margin does not count", Tapes.told("margin 100;").shape(4, 5), 386);
    }

    private void pulls() {
        s.says("terms 1", "PULLS: the greatest k, 1 .. 16, so that the sum of 40 and of (30 times ALL ROWS, by k, "
            + "downwards), times 100, is no less than FALL times 100 and MARGIN;");
        // 10 rows: 40 and 300 by 15 are 60; 30 times 200 are 6000: just so much
        s.due("15, just so much", Tapes.told("words 16;mux 2;margin 100;").shape(2, 10), 15);
        // 18 rows: 40 and 540 by 13, downwards, are 81; 54 times 150 are 8100, 54 times 151 are 8154
        s.due("13, just so much", Tapes.told("margin 50;mux 4;").shape(4, 10), 13);
        s.due("12, one more", Tapes.told("margin 51;mux 4;").shape(4, 10), 12);
        // 9 rows, no margin: 40 and 270 by 17 would be enough, too
        s.due("16 is the greatest", Tapes.told("words 16;mux 2;spare 0 0;margin 0;").shape(2, 10), 16);
        // 10 rows: 30 times 191 are 5730, 58 times 100 by 16, 57 times 100 by 17
        s.due("16 by itself", Tapes.told("words 16;mux 2;margin 91;").shape(2, 10), 16);
        // 517 rows: 1551 times 200 are 310200; 40 and 15510 by 5 are 3142, by 6 they are 2625
        s.due("the most rows and margin", Tapes.told("words 512;mux 1;spare 4 0;margin 100;").shape(1, 10), 5);
        // 1551 times 100 are 155100; by 10 they are 1591, by 11 they are 1450
        s.due("the most rows, no margin", Tapes.told("words 512;mux 1;spare 4 0;margin 0;").shape(1, 10), 10);
    }

    private void pullsOne() {
        s.says("terms 1", "1, if there is none.");
        // 30 times ALL ROWS are more than 6 times them: there is always one, and never fewer than 5
        for (int words = 16; words <= 1024; words *= 2) {
            for (int spare = 0; spare <= 4; spare++) {
                MemoryMaker x = Tapes.told("words " + words + ";spare " + spare + " 0;margin 100;");
                for (int m : MUXES) {
                    int pulls = x.shape(m, 10);
                    s.due("pulls of " + words + " by " + m, pulls == NONE || pulls >= 5 && pulls <= 16, true);
                }
            }
        }
    }

    private void cycle() {
        s.says("terms 1", "CYCLE: DELAY, WIRE, SENSE, 40, and (30 times ALL ROWS, by PULLS, downwards) together.");
        // 540 by 16 are 33 and more
        s.due("by 4", new MemoryMaker().shape(4, 6), 248 + 54 + 30 + 40 + 33);
        // 300 by 15 are 20
        MemoryMaker x = Tapes.told("words 16;mux 2;margin 100;");
        s.due("by 2", x.shape(2, 6), x.shape(2, 9) + x.shape(2, 11) + 25 + 40 + 20);
        x = Tapes.told("words 512;mux 1;spare 4 0;margin 100;");
        s.due("the most rows", x.shape(1, 6), x.shape(1, 9) + 4 + 20 + 40 + 3102);
    }

    private void muxTold() {
        s.says("terms 1", "The mux that IS: MUX;");
        for (int m : MUXES) {
            MemoryMaker x = new MemoryMaker();
            x.set(2, m);
            s.due("mux told", x.count(10), m);
            for (int wish = 2; wish >= 0; wish--) {
                x.set(8, wish);
                s.due("whatever is wished", x.count(10), m);
            }
            s.due("spec answers it", Tapes.spec(x, "wish time;mux " + m + ";"), m);
        }
    }

    private void muxByWish() {
        s.says("terms 1", "if that is 0, of all that are POSSIBLE the one with least AREA, or least CYCLE, or with WIDTH and "
            + "HEIGHT least apart, by WISH;");
        // by 8 it has 4 rows, and is none of these
        MemoryMaker x = Tapes.told("words 32;bits 1;cell 8 1;");
        int[] due = {2, 4, 1};
        for (int wish = 2; wish >= 0; wish--) {
            x.set(8, wish);
            s.due("by wish " + wish, x.count(10), due[wish]);
        }
        for (int m : new int[] {1, 4}) {
            s.due("area by " + m, x.shape(m, 4) > x.shape(2, 4), true);
        }
        for (int m : new int[] {1, 2}) {
            s.due("cycle by " + m, x.shape(m, 6) > x.shape(4, 6), true);
        }
        for (int m : new int[] {2, 4}) {
            int apart = Math.abs(x.shape(m, 2) - x.shape(m, 3));
            s.due("apart by " + m, apart > Math.abs(x.shape(1, 2) - x.shape(1, 3)), true);
        }
        boolean[][] chosen = new boolean[3][9];
        for (int words = 16; words <= 1024; words *= 2) {
            for (int bits = 1; bits <= 32; bits += 5) {
                for (int wide = 1; wide <= 20; wide += 6) {
                    x = Tapes.told("words " + words + ";bits " + bits + ";cell " + wide + " 7;");
                    for (int wish = 2; wish >= 0; wish--) {
                        x.set(8, wish);
                        s.due("the mux that is", x.count(10), least(x, wish));
                        chosen[wish][Math.max(0, x.count(10))] = true;
                    }
                }
            }
        }
        for (boolean[] c : chosen) {
            s.due("each mux was the one at times", c[1] && c[2] && c[4] && c[8], true);
        }
    }

    /** The mux with the least of what is wished, as shape() tells it. */
    private static int least(MemoryMaker x, int wish) {
        int best = NONE;
        int cost = 0;
        for (int m : MUXES) {
            int apart = Math.abs(x.shape(m, 2) - x.shape(m, 3));
            int of = wish == 0 ? x.shape(m, 4) : wish == 1 ? x.shape(m, 6) : apart;
            if (x.shape(m, 0) != NONE && (best == NONE || of < cost)) {
                best = m;
                cost = of;
            }
        }
        return best;
    }

    private void muxOfSeveral() {
        s.says("terms 1", "by WISH; of several the least.");
        MemoryMaker x = Tapes.told("words 16;bits 5;spare 0 0;cell 2 1;wish area;");
        s.due("area by 1", x.shape(1, 4), 2961);
        s.due("area by 2", x.shape(2, 4), 2961);
        s.due("least of both", x.count(10), 1);
        x = Tapes.told("words 32;bits 3;spare 0 0;cell 3 2;wish area;");
        s.due("area by 2", x.shape(2, 4), 5184);
        s.due("area by 4", x.shape(4, 4), 5184);
        s.due("least of these", x.count(10), 2);
        x = Tapes.told("words 16;bits 8;spare 0 0;wish time;");
        s.due("cycle by 1", x.shape(1, 6), 291);
        s.due("cycle by 2", x.shape(2, 6), 291);
        s.due("least of those", x.count(10), 1);
        x = Tapes.told("words 16;bits 1;spare 0 0;cell 4 2;wish square;");
        s.due("apart by 1, higher", x.shape(1, 3) - x.shape(1, 2), 7);
        s.due("apart by 2", Math.abs(x.shape(2, 3) - x.shape(2, 2)), 7);
        s.due("least, whichever is more", x.count(10), 1);
    }

    private void muxAlways() {
        s.says("terms 1", "(By MUX 0 some always is.)");
        for (int words = 16; words <= 1024; words *= 2) {
            for (int bits = 1; bits <= 32; bits += 31) {
                for (String wish : new String[] {"area", "time", "square"}) {
                    MemoryMaker x = Tapes.told("words " + words + ";bits " + bits + ";wish " + wish + ";");
                    int m = x.count(10);
                    s.due("the mux that is", m == 1 || m == 2 || m == 4 || m == 8, true);
                    s.due("is possible", x.shape(m, 0), words / Math.max(1, m));
                }
            }
        }
    }

    private void fitMux() {
        s.says("terms 1", "The SPEC is FIT, if MUX is 0 or POSSIBLE,");
        MemoryMaker x = Tapes.told("mux 8;");
        s.due("4 rows", x.set(0, 32), 4);
        s.due("words stay", x.count(0), 64);
        x = Tapes.told("words 512;mux 1;");
        s.due("1024 rows", x.set(0, 1024), 4);
        s.due("words stay, too", x.count(0), 512);
        x.set(2, 0);
        s.due("by mux 0", x.set(0, 1024), 0);
        s.due("and", x.set(0, 16), 0);
        s.due("4 rows by a text", Tapes.spec(x, "words 16;mux 4;"), NONE);
        s.due("its fault", x.fault(0), 5);
        s.due("8 rows by a text", Tapes.spec(x, "words 16;mux 2;"), 2);
        s.due("1024 rows by a text", Tapes.spec(x, "words 1024;mux 1;"), NONE);
        s.due("its fault, too", x.fault(0), 5);
        s.due("512 rows by a text", Tapes.spec(x, "words 1024;mux 2;"), 2);
        s.due("mux 0 by a text", Tapes.spec(x, "words 1024;mux 0;") != NONE, true);
    }

    private void fitBad() {
        s.says("terms 1", "and all BAD cells lie in ROWS and COLUMNS by it.");
        for (int m : MUXES) {
            MemoryMaker x = Tapes.told("mux " + m + ";");
            int rows = 64 / m;
            int columns = 8 * m;
            s.due("the last cell", x.bad(rows - 1, columns - 1, 0), 0);
            s.due("the row behind it", x.bad(rows, 0, 0), 4);
            s.due("the column behind it", x.bad(0, columns, 0), 4);
            s.due("spare ones don't count", x.set(3, 4) + x.bad(rows, 0, 0), 4);
            s.due("nor spare columns", x.set(4, 2) + x.bad(0, columns, 0), 4);
        }
        // the mux that is chosen, 2, has 16 rows and 2 columns; by time 4: 8 and 4; by square 1: 32 and 1
        String text = "words 32;bits 1;cell 8 1;";
        s.due("outside by time", Tapes.told(text + "bad 8 0 0;").set(8, 1), 4);
        s.due("inside by time", Tapes.told(text + "bad 7 1 0;").set(8, 1), 0);
        s.due("outside by square", Tapes.told(text + "bad 0 1 0;").set(8, 2), 4);
        s.due("inside by square", Tapes.told(text + "bad 15 0 0;").set(8, 2), 0);
        MemoryMaker x = new MemoryMaker();
        s.due("by a text", Tapes.spec(x, text + "bad 16 0 0;"), NONE);
        s.due("its fault", x.fault(0), 5);
        s.due("by a text, inside", Tapes.spec(x, text + "bad 15 1 0;"), 2);
    }
}
