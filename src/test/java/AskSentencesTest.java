/** Promises 12 to 25: what there is, and images; a test for each sentence. */
public final class AskSentencesTest {
    private static final int NONE = -1;
    private static final int LOW = Integer.MIN_VALUE;
    private static final int HIGH = Integer.MAX_VALUE;
    private static final String FIRST = "words 64;bits 8;mux 0;spare 1 0;cell 2 3;margin 20;wish area;";
    private static final String MADE = "size 124 100;time 386 405;rows 16 0;columns 32 0;stages 4 2 1 3 10;";

    private final Sentences s = new Sentences("promise 12", "promise 13", "promise 14", "promise 15", "promise 16", "promise 17",
        "promise 18", "promise 19", "promise 20", "promise 21", "promise 22", "promise 23", "promise 24", "promise 25");

    public static void main(String[] args) {
        AskSentencesTest t = new AskSentencesTest();
        t.counts();
        t.shapes();
        t.givenUp();
        t.cells();
        t.viewed();
        t.most();
        t.fewest();
        t.images();
        t.s.end();
    }

    private void counts() {
        countNumbers();
        countMade();
        countOnes();
        countUndo();
        countTape();
        countTests();
        countOther();
    }

    private void shapes() {
        shapeNumbers();
        shapeNone();
        wished();
        wishedNone();
    }

    private void givenUp() {
        given();
        givenNone();
        cell();
        cellNone();
    }

    private void cells() {
        place();
        placeNone();
        read();
        readNone();
        testFinds();
    }

    private void viewed() {
        view();
        viewNone();
        agreeAlike();
        agreeNot();
    }

    private void most() {
        mostWords();
        mostNone();
    }

    private void fewest() {
        fewestRows();
        fewestNone();
    }

    private void images() {
        imageIsAll();
        imageOther();
        againIsAll();
        againNone();
    }

    private void countNumbers() {
        s.says("promise 12", "What 0 to 8: as set(), 9: BAD cells,");
        MemoryMaker x = Tapes.told("words 1024;bits 32;mux 8;spare 4 2;cell 20 19;margin 100;wish square;");
        int[] numbers = {1024, 32, 8, 4, 2, 20, 19, 100, 2};
        for (int what = 0; what < 9; what++) {
            s.due("count(" + what + ")", x.count(what), numbers[what]);
        }
        for (int i = 0; i <= 12; i++) {
            s.due("bad cells", x.count(9), i);
            x.bad(i, i, 0);
        }
        s.due("no more than 12", x.count(9), 12);
    }

    private void countMade() {
        s.says("promise 12", "10: the mux that IS, 11: 1 if it is MENDED, else 0, 12: ROWS GIVEN UP, 13: COLUMNS GIVEN UP,");
        MemoryMaker x = new MemoryMaker();
        s.due("mux chosen", x.count(10), 4);
        x.set(2, 1);
        s.due("mux told", x.count(10), 1);
        x = Tapes.told("mux 4;spare 4 2;bad 0 9 1;bad 1 9 1;bad 2 8 1;bad 3 8 1;bad 4 0 1;bad 5 1 1;bad 6 2 1;bad 7 3 1;");
        s.due("mended", x.count(11), 1);
        s.due("all rows", x.count(12), 4);
        s.due("all columns", x.count(13), 2);
        x.bad(8, 4, 1);
        s.due("not mended", x.count(11), 0);
        s.due("no rows", x.count(12), 0);
        s.due("no columns", x.count(13), 0);
        x.undo();
        s.due("mended again", x.count(11), 1);
        s.due("all rows again", x.count(12), 4);
    }

    private void countOnes() {
        s.says("promise 12", "14: CELLS that are 1 as they are read,");
        MemoryMaker x = Tapes.told("words 16;bits 32;mux 1;");
        s.due("none", x.count(14), 0);
        for (int address = 0; address < 16; address++) {
            x.write(address, -1);
        }
        s.due("all", x.count(14), 512);
        x = Tapes.told("mux 4;spare 0 0;bad 1 1 1;bad 2 2 0;");
        s.due("one, told by a bad cell", x.count(14), 1);
        x.write(10, 1);
        s.due("a 1 that is not read", x.count(14), 1);
        x.set(3, 2);
        s.due("both rows are given up", x.count(14), 0);
        x.write(4, 255);
        x.write(11, 1);
        s.due("cells in spare rows", x.count(14), 9);
        x.heal(1, 1);
        x.heal(2, 2);
        s.due("which none comes to", x.count(14), 0);
        s.due("all of the greatest", allOnes(), 1024 * 32);
    }

    private static int allOnes() {
        MemoryMaker x = Tapes.told("words 1024;bits 32;mux 8;spare 0 0;");
        MemoryMaker y = Tapes.told("words 1024;bits 32;mux 8;spare 0 0;");
        MemoryMaker z = Tapes.told("words 1024;bits 32;mux 8;spare 0 0;");
        for (int address = 0; address < 400; address++) {
            x.write(address, -1);
            y.write(address + 400, -1);
            z.write(Math.min(address + 800, 1023), -1);
        }
        return x.count(14) + y.count(14) + z.count(14);
    }

    private void countUndo() {
        s.says("promise 12", "15: ACTS that can be UNDONE,");
        MemoryMaker x = new MemoryMaker();
        for (int i = 0; i < 10; i++) {
            s.due("acts", x.count(15), Math.min(i, 6));
            x.write(i, i);
        }
        x.undo();
        s.due("one fewer", x.count(15), 5);
        x.undo();
        x.undo();
        x.undo();
        x.undo();
        x.undo();
        s.due("none", x.count(15), 0);
        x.undo();
        s.due("none still", x.count(15), 0);
    }

    private void countTape() {
        s.says("promise 12", "16: bytes on the tape,");
        MemoryMaker x = new MemoryMaker();
        for (int i = 0; i < 16; i++) {
            s.due("bytes", x.count(16), 20 * i);
            x.feed(0, 0, 0, 0, 0);
        }
        s.due("bytes of a full one", x.count(16), 300);
        x.end(1);
        s.due("one", x.count(16), 1);
        x.spec();
        s.due("none", x.count(16), 0);
    }

    private void countTests() {
        s.says("promise 12", "17: CELLS that one of both TESTS finds.");
        MemoryMaker x = Tapes.told("mux 4;spare 0 0;");
        for (int i = 0; i < 12; i++) {
            s.due("found", x.count(17), i);
            x.bad(i, i, i & 1);
        }
        s.due("all twelve, six by each", x.count(17), 12);
        s.due("zeros", x.test(false), 6);
        s.due("ones", x.test(true), 6);
        x = Tapes.told("mux 4;spare 1 0;bad 3 1 1;bad 3 2 0;");
        s.due("mended", x.count(17), 0);
        x.bad(4, 1, 1);
        s.due("not mended", x.count(17), 3);
    }

    private void countOther() {
        s.says("promise 12", "NONE for another what.");
        for (int what : new int[] {-1, -2, 18, 19, 100, LOW, HIGH}) {
            s.due("count(" + what + ")", new MemoryMaker().count(what), NONE);
        }
    }

    private void shapeNumbers() {
        s.says("promise 13", "By a mux, what 0: ROWS, 1: COLUMNS, 2: WIDTH, 3: HEIGHT, 4: AREA, 5: READ, 6: CYCLE, 7: n, 8: TENTHS, "
            + "9: DELAY, 10: PULLS, 11: WIRE, 12: FALL, 20 + i: the SIZE of the i-th stage, from 0 on.");
        int[] due = {16, 32, 124, 100, 12400, 386, 405, 4, 47, 248, 16, 54, 54};
        int[] sizes = {2, 1, 3, 10};
        // whichever mux is told, and whatever is bad
        for (String text : new String[] {"", "mux 1;", "mux 4;bad 0 0 1;", "mux 8;wish time;bad 7 63 1;bad 6 2 1;"}) {
            MemoryMaker x = Tapes.told(text);
            for (int what = 0; what < due.length; what++) {
                s.due("shape(4, " + what + ") of " + text, x.shape(4, what), due[what]);
            }
            for (int i = 0; i < 4; i++) {
                s.due("shape(4, " + (20 + i) + ") of " + text, x.shape(4, 20 + i), sizes[i]);
            }
        }
        int[] eight = {7, 1, 1, 1, 3, 8, 29, 111};
        for (int i = 0; i < 8; i++) {
            s.due("size " + i, Tapes.told("words 1024;bits 32;spare 4 2;").shape(8, 20 + i), eight[i]);
        }
    }

    private void shapeNone() {
        s.says("promise 13", "NONE: it is not POSSIBLE, none of these.");
        MemoryMaker x = new MemoryMaker();
        for (int what : new int[] {-1, 13, 14, 19, 24, 25, 27, 28, 100, LOW, HIGH}) {
            s.due("shape(4, " + what + ")", x.shape(4, what), NONE);
        }
        for (int mux : new int[] {0, -1, 3, 5, 6, 7, 9, 16, 64, LOW, HIGH}) {
            s.due("shape(" + mux + ", 0)", x.shape(mux, 0), NONE);
            s.due("shape(" + mux + ", 20)", x.shape(mux, 20), NONE);
        }
        s.due("two stages: no third", Tapes.told("words 16;bits 1;").shape(1, 22), NONE);
        s.due("eight stages: no ninth", Tapes.told("words 1024;bits 32;").shape(8, 28), NONE);
        for (int what : new int[] {0, 2, 7, 12, 20}) {
            s.due("4 rows", Tapes.told("words 16;").shape(4, what), NONE);
            s.due("2 rows", Tapes.told("words 16;").shape(8, what), NONE);
            s.due("1024 rows", Tapes.told("words 1024;").shape(1, what), NONE);
        }
    }

    private void wished() {
        s.says("promise 14", "The mux that would be by a WISH (0 .. 2), were MUX 0.");
        int[] due = {2, 4, 1};
        for (String text : new String[] {"", "mux 1;", "mux 4;wish square;", "mux 2;bad 15 1 0;"}) {
            MemoryMaker x = Tapes.told("words 32;bits 1;cell 8 1;" + text);
            int mux = x.count(10);
            for (int wish = 0; wish < 3; wish++) {
                s.due("wished(" + wish + ") of " + text, x.wished(wish), due[wish]);
            }
            s.due("the mux that is stays", x.count(10), mux);
        }
        for (int wish = 0; wish < 3; wish++) {
            s.due("16 words: 4 and 8 are not possible", Tapes.told("words 16;cell 1 20;").wished(wish) <= 2, true);
            s.due("1024 words: 1 is not possible", Tapes.told("words 1024;cell 20 1;").wished(wish) >= 2, true);
        }
        // of several the least
        s.due("area", Tapes.told("words 16;bits 5;spare 0 0;cell 2 1;mux 2;").wished(0), 1);
        s.due("time", Tapes.told("words 16;bits 8;spare 0 0;mux 2;").wished(1), 1);
        s.due("square", Tapes.told("words 16;bits 1;spare 0 0;cell 4 2;mux 2;").wished(2), 1);
    }

    private void wishedNone() {
        s.says("promise 14", "NONE: another one, none.");
        for (int wish : new int[] {-1, 3, 4, LOW, HIGH}) {
            s.due("wished(" + wish + ")", new MemoryMaker().wished(wish), NONE);
        }
    }

    private void given() {
        s.says("promise 15", "The k-th ROW, or (column) COLUMN, that is GIVEN UP, rising.");
        MemoryMaker x = Tapes.told("mux 4;spare 4 2;bad 9 31 1;bad 8 31 1;bad 7 31 1;bad 7 2 1;bad 6 2 1;bad 5 2 1;bad 15 1 1;"
            + "bad 0 0 1;bad 3 5 1;bad 2 6 1;");
        int[] rows = {0, 2, 3, 15};
        for (int k = 0; k < 4; k++) {
            s.due("row " + k, x.given(k, false), rows[k]);
        }
        s.due("column 0", x.given(0, true), 2);
        s.due("column 1", x.given(1, true), 31);
    }

    private void givenNone() {
        s.says("promise 15", "NONE: not so many.");
        MemoryMaker x = new MemoryMaker();
        for (int k : new int[] {0, 1, 4, -1, LOW, HIGH}) {
            s.due("row " + k + " of none", x.given(k, false), NONE);
            s.due("column " + k + " of none", x.given(k, true), NONE);
        }
        x = Tapes.told("mux 4;spare 4 2;bad 1 1 1;");
        s.due("one row", x.given(0, false), 1);
        s.due("no second row", x.given(1, false), NONE);
        s.due("no column", x.given(0, true), NONE);
        x = Tapes.told("mux 4;spare 4 2;bad 0 9 1;bad 1 9 1;bad 2 8 1;bad 3 8 1;bad 4 0 1;bad 5 1 1;bad 6 2 1;bad 7 3 1;");
        for (int k : new int[] {4, 5, -1, LOW, HIGH}) {
            s.due("row " + k + " of four", x.given(k, false), NONE);
        }
        for (int k : new int[] {2, 3, -1, LOW, HIGH}) {
            s.due("column " + k + " of two", x.given(k, true), NONE);
        }
        x.bad(8, 4, 1);
        s.due("not mended, no row", x.given(0, false), NONE);
        s.due("not mended, no column", x.given(0, true), NONE);
    }

    private void cell() {
        s.says("promise 16", "Of the k-th BAD cell, what 0: ROW, 1: COLUMN, 2: the bit, 3: 1 if it is in one that is GIVEN UP, else "
            + "0.");
        MemoryMaker x = Tapes.told("mux 4;spare 1 1;bad 15 31 1;bad 0 7 0;bad 2 7 1;");
        int[][] due = {{15, 31, 1, 1}, {0, 7, 0, 1}, {2, 7, 1, 1}};
        for (int k = 0; k < 3; k++) {
            for (int what = 0; what < 4; what++) {
                s.due("cell(" + k + ", " + what + ")", x.cell(k, what), due[k][what]);
            }
        }
        x.bad(9, 9, 1);
        for (int k = 0; k < 4; k++) {
            s.due("not mended: in none", x.cell(k, 3), 0);
        }
        s.due("the new one is the last", x.cell(3, 0), 9);
    }

    private void cellNone() {
        s.says("promise 16", "NONE: there is none such (of either).");
        MemoryMaker x = new MemoryMaker();
        for (int what = 0; what < 4; what++) {
            s.due("no bad cell", x.cell(0, what), NONE);
        }
        x = Tapes.told("bad 1 1 1;");
        for (int k : new int[] {1, 11, 12, -1, LOW, HIGH}) {
            for (int what = 0; what < 4; what++) {
                s.due("cell(" + k + ", " + what + ")", x.cell(k, what), NONE);
            }
        }
        for (int what : new int[] {4, 5, -1, LOW, HIGH}) {
            s.due("cell(0, " + what + ")", x.cell(0, what), NONE);
        }
    }

    private void place() {
        s.says("promise 17", "Of a CELL, what 0: the place of its row, 1: of its column, 2: the bit that is read, 3: 1 if that is told "
            + "by a BAD one, else 0.");
        MemoryMaker x = Tapes.told("mux 4;spare 1 1;bad 9 5 1;bad 3 7 1;bad 4 7 1;");
        x.write(39, 255);
        int[] both = {16, 32, 1, 0};
        for (int what = 0; what < 4; what++) {
            s.due("a cell of both that are given up", x.place(39, 1, what), both[what]);
        }
        x.bad(1, 1, 1);
        int[] own = {9, 7, 0, 0};
        for (int what = 0; what < 4; what++) {
            s.due("not mended: its own place", x.place(39, 1, what), own[what]);
        }
        int[] stuck = {1, 1, 1, 1};
        for (int what = 0; what < 4; what++) {
            s.due("a bad one", x.place(5, 0, what), stuck[what]);
        }
        x = Tapes.told("words 16;bits 32;mux 1;spare 0 0;bad 15 31 0;");
        x.write(15, -1);
        s.due("the highest bit, stuck at 0", x.place(15, 31, 2), 0);
        s.due("told by a bad one", x.place(15, 31, 3), 1);
        x.write(14, LOW);
        s.due("the highest bit, written", x.place(14, 31, 2), 1);
        s.due("told by none", x.place(14, 31, 3), 0);
    }

    private void placeNone() {
        s.says("promise 17", "NONE: there is none such (of any).");
        MemoryMaker x = new MemoryMaker();
        for (int address : new int[] {64, 65, 1024, -1, LOW, HIGH}) {
            s.due("address " + address, x.place(address, 0, 0), NONE);
            s.due("bit of address " + address, x.place(address, 0, 2), NONE);
        }
        for (int bit : new int[] {8, 9, 31, 32, -1, LOW, HIGH}) {
            s.due("bit " + bit, x.place(0, bit, 1), NONE);
            s.due("told of bit " + bit, x.place(0, bit, 3), NONE);
        }
        for (int what : new int[] {4, 5, -1, LOW, HIGH}) {
            s.due("what " + what, x.place(0, 0, what), NONE);
        }
        s.due("bit 32 of 32", Tapes.told("bits 32;").place(0, 32, 2), NONE);
        s.due("bit 31 of 32", Tapes.told("bits 32;").place(0, 31, 2), 0);
    }

    private void read() {
        s.says("promise 18", "What is read at an address, its BITS as the lowest ones of a number (of 32 BITS its sign, too).");
        MemoryMaker x = Tapes.told("words 16;bits 32;mux 1;spare 0 0;");
        for (int value : new int[] {-1, LOW, HIGH, 1, 0x55555555}) {
            x.write(15, value);
            s.due("read of " + value, x.read(15), value);
        }
        x = Tapes.told("words 16;bits 31;mux 1;spare 0 0;");
        x.write(15, -1);
        s.due("31 bits have no sign", x.read(15), HIGH);
        x = Tapes.told("words 16;bits 1;mux 2;spare 0 0;");
        x.write(15, -2);
        s.due("the lowest one of -2", x.read(15), 0);
        x.write(15, 3);
        s.due("the lowest one of 3", x.read(15), 1);
        x = Tapes.told("words 16;bits 32;mux 1;spare 0 0;bad 3 31 1;bad 4 0 1;");
        s.due("a sign told by a bad cell", x.read(3), LOW);
        s.due("a bit told by a bad cell", x.read(4), 1);
        x.set(3, 2);
        s.due("mended", x.read(3), 0);
    }

    private void readNone() {
        s.says("promise 18", "0: no such address.");
        MemoryMaker x = Tapes.told("mux 4;");
        for (int address = 60; address < 64; address++) {
            x.write(address, 255);
        }
        x.write(0, 255);
        for (int address : new int[] {64, 65, 128, 1023, 1024, -1, -64, LOW, HIGH}) {
            s.due("read(" + address + ")", x.read(address), 0);
        }
        s.due("the last", x.read(63), 255);
        s.due("the first", x.read(0), 255);
    }

    private void testFinds() {
        s.says("promise 19", "TEST: CELLS that tell another bit than was written there, when all are written 0, or (ones) 1 (nothing "
            + "stays of it).");
        MemoryMaker x = Tapes.told("mux 4;spare 0 0;");
        s.due("no bad cell, zeros", x.test(false), 0);
        s.due("no bad cell, ones", x.test(true), 0);
        for (int i = 0; i < 12; i++) {
            x.bad(i, i, i < 5 ? 1 : 0);
        }
        x.write(0, 77);
        x.image(0);
        s.due("zeros: those stuck at 1", x.test(false), 5);
        s.due("ones: those stuck at 0", x.test(true), 7);
        s.due("cells", x.read(0), 77);
        s.due("ones", x.count(14), 8);
        s.due("what can be undone", x.count(15), 6);
        x.set(3, 4);
        s.due("not mended still", x.test(true), 7);
        x = Tapes.told("mux 4;spare 1 0;bad 1 1 0;bad 1 2 1;");
        s.due("mended, zeros", x.test(false), 0);
        s.due("mended, ones", x.test(true), 0);
    }

    private void view() {
        s.says("promise 20", "The i-th byte of VIEW 0 or 1, or (i NONE) how many it has.");
        MemoryMaker x = new MemoryMaker();
        s.due("bytes of 0", x.view(0, NONE), FIRST.length());
        s.due("bytes of 1", x.view(1, NONE), MADE.length());
        for (int i = 0; i < FIRST.length(); i++) {
            s.due("byte " + i + " of 0", x.view(0, i), FIRST.charAt(i));
        }
        for (int i = 0; i < MADE.length(); i++) {
            s.due("byte " + i + " of 1", x.view(1, i), MADE.charAt(i));
        }
        x.set(1, 32);
        s.due("a byte more", x.view(0, NONE), FIRST.length() + 1);
        s.due("that byte", x.view(0, FIRST.length()), ';');
    }

    private void viewNone() {
        s.says("promise 20", "NONE: not so many, another VIEW.");
        MemoryMaker x = new MemoryMaker();
        s.due("the byte behind the last of 0", x.view(0, 61), NONE);
        s.due("the byte behind the last of 1", x.view(1, 67), NONE);
        for (int i : new int[] {-2, -3, 300, 399, 400, 401, LOW, HIGH}) {
            s.due("byte " + i + " of 0", x.view(0, i), NONE);
            s.due("byte " + i + " of 1", x.view(1, i), NONE);
        }
        for (int view : new int[] {-1, 2, 3, LOW, HIGH}) {
            s.due("byte 0 of view " + view, x.view(view, 0), NONE);
            s.due("bytes of view " + view, x.view(view, NONE), NONE);
        }
        // a view that was longer before
        x.bad(1, 1, 1);
        x.view(0, 61);
        x.heal(1, 1);
        s.due("not so many any more", x.view(0, 61), NONE);
    }

    private void agreeAlike() {
        s.says("promise 21", "The tape is compared with VIEW 1: NONE, if all bytes are alike, and as many;");
        MemoryMaker x = new MemoryMaker();
        Tapes.put(x, MADE);
        s.due("alike", x.agree(), NONE);
        s.due("the tape is empty then", x.count(16), 0);
        String text = "words 1024;bits 32;mux 8;spare 4 2;cell 20 20;margin 100;bad 0 0 1;bad 1 1 1;bad 2 1 1;";
        x = Tapes.told(text);
        Tapes.put(x, "size 5375 2714;time 4220 4659;rows 128 1;columns 256 1;stages 8 7 1 1 1 3 8 29 111;");
        s.due("a long one", x.agree(), NONE);
        Tapes.put(x, Tapes.view(Tapes.told(text), 1));
        s.due("the view of another maker", x.agree(), NONE);
    }

    private void agreeNot() {
        s.says("promise 21", "else the first place at which they are not.");
        MemoryMaker x = new MemoryMaker();
        s.due("an empty tape", x.agree(), 0);
        Tapes.put(x, MADE.substring(0, 1));
        s.due("one byte", x.agree(), 1);
        Tapes.put(x, MADE.substring(0, 66));
        s.due("one fewer", x.agree(), 66);
        Tapes.put(x, MADE + ";");
        s.due("one more", x.agree(), 67);
        for (int i = 0; i < 67; i += 6) {
            StringBuilder other = new StringBuilder(MADE);
            other.setCharAt(i, (char) (other.charAt(i) + 128));
            Tapes.put(x, other.toString());
            s.due("another byte at " + i, x.agree(), i);
        }
        Tapes.put(x, MADE.replace('s', 'z'));
        s.due("the first of several", x.agree(), 0);
        for (int i = 0; i < 15; i++) {
            x.feed(0, 0, 0, 0, 0);
        }
        s.due("a full tape", x.agree(), 0);
        s.due("which is empty then", x.count(16), 0);
        Tapes.put(x, FIRST);
        s.due("view 0", x.agree(), 0);
        // bytes that were there before are no part of a shorter one
        Tapes.put(x, MADE);
        x.end(10);
        s.due("a cut one", x.agree(), 10);
    }

    private void mostWords() {
        s.says("promise 22", "The most WORDS, a power of 2, 16 .. 1024, by which, all else as it is but MUX, which is 0, without BAD "
            + "cells, some POSSIBLE mux has WIDTH and HEIGHT of so much at most.");
        MemoryMaker x = new MemoryMaker();
        s.due("just so much", x.most(124, 100), 64);
        s.due("one narrower", x.most(123, 100), 32);
        s.due("one lower", x.most(124, 99), 32);
        s.due("as much as can be", x.most(HIGH, HIGH), 1024);
        // 1024 words by 8 have 130 rows: 390, 30 and 24
        s.due("1024 words, just as high", x.most(HIGH, 444), 1024);
        s.due("one lower than that", x.most(HIGH, 443), 512);
        // 16 words by 1 have 18 rows and 9 columns: 18, 48 and 4; by 2 they have 17 columns: 34, 36 and 7
        s.due("16 words, just so wide", x.most(70, 84), 16);
        s.due("by 2, which is lower", x.most(77, 68), 16);
        s.due("whatever mux is told", Tapes.told("mux 8;").most(124, 100), 64);
        s.due("and whatever is bad", Tapes.told("mux 8;bad 7 63 1;").most(124, 100), 64);
        s.due("and however many words there are", Tapes.told("words 1024;mux 8;bad 127 63 1;").most(124, 100), 64);
        s.due("all else as it is: spare rows", Tapes.told("spare 2 0;").most(124, 100), 32);
        s.due("spare columns", Tapes.told("spare 1 1;").most(124, 100), 32);
        s.due("wide", Tapes.told("cell 3 3;").most(124, 100), 32);
        s.due("high", Tapes.told("cell 2 4;").most(124, 100), 32);
        s.due("bits", Tapes.told("bits 9;").most(124, 100), 32);
        s.due("nothing changes", Tapes.view(x, 0), FIRST);
    }

    private void mostNone() {
        s.says("promise 22", "NONE: none.");
        MemoryMaker x = new MemoryMaker();
        int[][] none = {{0, 0}, {-1, HIGH}, {HIGH, -1}, {LOW, LOW}, {0, HIGH}, {HIGH, 0}, {10, 10}};
        for (int[] n : none) {
            s.due("most(" + n[0] + ", " + n[1] + ")", x.most(n[0], n[1]), NONE);
        }
        s.due("narrower than 16 words by 1", x.most(69, 84), NONE);
        s.due("narrower than 16 words by 2", x.most(76, 68), NONE);
        s.due("lower than 16 words by 2", x.most(HIGH, 67), NONE);
    }

    private void fewestRows() {
        s.says("promise 23", "The fewest SPARE ROWS, 0 .. 4, with which, all else as it is (the mux that IS), all BAD cells would be "
            + "MENDED.");
        MemoryMaker x = Tapes.told("mux 4;spare 0 0;");
        for (int i = 0; i < 5; i++) {
            s.due("rows for " + i, x.fewest(), i);
            x.bad(i, i, 1);
        }
        x = Tapes.told("mux 4;spare 4 0;bad 1 1 1;");
        s.due("fewer than there are", x.fewest(), 1);
        s.due("which stay", x.count(3), 4);
        x = Tapes.told("mux 4;spare 4 2;bad 0 0 1;bad 1 1 1;bad 2 2 1;bad 3 3 1;bad 4 4 1;bad 5 5 1;");
        s.due("four and two columns", x.fewest(), 4);
        x.heal(5, 5);
        s.due("three and two columns, though four would be given up", x.fewest(), 3);
        x = Tapes.told("mux 4;spare 4 2;bad 0 3 1;bad 1 3 1;bad 2 7 1;");
        s.due("none: two columns", x.fewest(), 0);
        x = Tapes.told("mux 4;spare 0 1;bad 0 3 1;bad 1 3 1;bad 2 7 1;");
        s.due("one: one column", x.fewest(), 1);
        // by other SPARE ROWS another mux might be chosen: the one that IS is meant
        x = Tapes.told("spare 0 0;bad 15 31 1;");
        s.due("one, by the mux that is", x.fewest(), 1);
    }

    private void fewestNone() {
        s.says("promise 23", "NONE: by none.");
        MemoryMaker x = Tapes.told("mux 4;spare 4 0;bad 0 0 1;bad 1 1 1;bad 2 2 1;bad 3 3 1;bad 4 4 1;");
        s.due("five rows", x.fewest(), NONE);
        x.set(4, 1);
        s.due("with a column", x.fewest(), 4);
        x.bad(5, 5, 1);
        s.due("six", x.fewest(), NONE);
        x.set(4, 2);
        s.due("with two columns", x.fewest(), 4);
        x.bad(6, 6, 1);
        s.due("seven", x.fewest(), NONE);
    }

    private void imageIsAll() {
        s.says("promise 24", "Image k (0 .. 2) is all that is (the tape, the FAULT, WHY, CELLS, too, but for what can be UNDONE), as it "
            + "is now: true;");
        for (int k = 0; k < 3; k++) {
            MemoryMaker x = Tapes.told("mux 8;spare 1 1;bad 1 1 1;bad 2 2 0;");
            x.write(9, 255);
            x.write(63, 254);
            Tapes.spec(x, "bits 99;");
            Tapes.put(x, "words 16;bits 3;");
            x.set(0, 16);
            s.due("image(" + k + ")", x.image(k), true);
            s.due("what can be undone stays", x.count(15), 2);
            x.undo();
            x.write(9, 0);
            x.set(7, 1);
            x.agree();
            Tapes.spec(x, "words 16;wish time;");
            s.due("again(" + k + ")", x.again(k), true);
            s.due("the spec", Tapes.view(x, 0), "words 64;bits 8;mux 8;spare 1 1;cell 2 3;margin 20;wish area;bad 1 1 1;bad 2 2 0;");
            s.due("what is given up", x.given(0, false) * 10 + x.given(0, true), 12);
            s.due("cells", x.read(9) * 1000 + x.read(63), 255254);
            s.due("ones", x.count(14), 15);
            s.due("the fault", x.fault(0), 2);
            s.due("its place", x.fault(1), 5);
            s.due("why", x.why(0) * 100 + x.why(1) * 10 + x.why(2), 457);
            s.due("bytes on the tape", x.count(16), 16);
            s.due("nothing can be undone", x.undo(), NONE);
            x.spec();
            s.due("the tape", Tapes.view(x, 0), "words 16;bits 3;mux 0;spare 1 0;cell 2 3;margin 20;wish area;");
        }
        imageAnew();
    }

    private void imageAnew() {
        MemoryMaker x = new MemoryMaker();
        for (int k = 0; k < 3; k++) {
            x.set(7, k);
            s.due("image(" + k + ")", x.image(k), true);
        }
        x.set(7, 9);
        s.due("image 1 anew", x.image(1), true);
        int[] margins = {0, 9, 2};
        for (int k = 2; k >= 0; k--) {
            x.again(k);
            s.due("margin of image " + k, x.count(7), margins[k]);
        }
    }

    private void imageOther() {
        s.says("promise 24", "false for another k.");
        MemoryMaker x = new MemoryMaker();
        for (int k : new int[] {-1, 3, 4, LOW, HIGH}) {
            s.due("image(" + k + ")", x.image(k), false);
            s.due("again(" + k + ")", x.again(k), false);
        }
        for (int k = 0; k < 3; k++) {
            s.due("no image " + k, x.again(k), false);
        }
    }

    private void againIsAll() {
        s.says("promise 25", "All that is is as image k has it: true;");
        MemoryMaker x = new MemoryMaker();
        x.write(5, 163);
        x.image(0);
        x.bad(1, 1, 0);
        x.write(5, 7);
        x.image(1);
        for (int i = 0; i < 3; i++) {
            s.due("again(0)", x.again(0), true);
            s.due("no bad cell", x.count(9) + x.count(12), 0);
            s.due("cells of 0", x.read(5), 163);
            x.write(5, 1);
            x.set(1, 32);
            s.due("again(1)", x.again(1), true);
            s.due("row 1", x.given(0, false), 1);
            s.due("cells of 1", x.read(5), 7);
            s.due("nothing can be undone", x.undo(), NONE);
            x.heal(1, 1);
            s.due("what lies in the row's own place", x.read(5), 163);
        }
        // an image of other extents
        x = Tapes.told("words 1024;bits 32;mux 8;");
        x.write(1023, -1);
        x.image(2);
        Tapes.spec(x, "words 16;bits 1;mux 2;");
        x.write(15, 1);
        s.due("again(2)", x.again(2), true);
        s.due("the last word", x.read(1023), -1);
        s.due("and no other", x.count(14), 32);
    }

    private void againNone() {
        s.says("promise 25", "false if there is none such.");
        MemoryMaker x = new MemoryMaker();
        x.image(1);
        x.set(7, 5);
        Tapes.put(x, "bits");
        x.write(64, 0);
        for (int k : new int[] {0, 2, 3, -1, LOW, HIGH}) {
            s.due("again(" + k + ")", x.again(k), false);
            s.due("margin stays", x.count(7), 5);
            s.due("the tape stays", x.count(16), 4);
            s.due("why stays", x.why(0), 1);
            s.due("what can be undone stays", x.count(15), 1);
        }
        s.due("the one that there is", x.again(1), true);
    }
}
