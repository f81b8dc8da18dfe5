/** Promises 1 to 11: a new object, the tape, ACTS, why() and undo(); a test for each sentence. */
public final class ActSentencesTest {
    private static final int NONE = -1;
    private static final int LOW = Integer.MIN_VALUE;
    private static final int HIGH = Integer.MAX_VALUE;
    private static final String FIRST = "words 64;bits 8;mux 0;spare 1 0;cell 2 3;margin 20;wish area;";

    private final Sentences s = new Sentences("promise 1", "promise 2", "promise 3", "promise 4", "promise 5", "promise 6",
        "promise 7", "promise 8", "promise 9", "promise 10", "promise 11");

    public static void main(String[] args) {
        ActSentencesTest t = new ActSentencesTest();
        t.newObject();
        t.feedComesBehind();
        t.feedFull();
        t.endFirst();
        t.endNone();
        t.specTaken();
        t.specAsTold();
        t.specFault();
        t.faultOfLatest();
        t.faultOther();
        t.setNumbers();
        t.badCell();
        t.healCell();
        t.writeLowest();
        t.whyLevels();
        t.whyNot();
        t.whyOther();
        t.undoLatest();
        t.undoNone();
        t.s.end();
    }

    private void newObject() {
        s.says("promise 1", "The SPEC as at first; no images.");
        MemoryMaker x = new MemoryMaker();
        int[] first = {64, 8, 0, 1, 0, 2, 3, 20, 0, 0, 4, 1, 0, 0, 0, 0, 0, 0};
        for (int what = 0; what < first.length; what++) {
            s.due("count(" + what + ")", x.count(what), first[what]);
        }
        for (int k = -1; k <= 3; k++) {
            s.due("again(" + k + ")", x.again(k), false);
        }
        s.due("undo()", x.undo(), NONE);
        s.due("fault(0)", x.fault(0), 0);
        s.due("fault(1)", x.fault(1), NONE);
        s.due("why(0)", x.why(0), 0);
        s.due("view 0", Tapes.view(x, 0), FIRST);
        // one object does not touch another
        MemoryMaker y = new MemoryMaker();
        y.image(0);
        y.set(0, 128);
        y.write(0, -1);
        y.feed(1, 2, 3, 4, 5);
        s.due("words of another object", x.count(0), 64);
        s.due("cells of another object", x.count(14), 0);
        s.due("tape of another object", x.count(16), 0);
        s.due("images of another object", x.again(0), false);
        s.due("an object made later", Tapes.view(new MemoryMaker(), 0), FIRST);
    }

    private void feedComesBehind() {
        s.says("promise 2", "The tape: twenty bytes come behind it, of each number the highest first: how many it has.");
        MemoryMaker x = new MemoryMaker();
        // "bits 10;" and "mux 2;" and blanks
        s.due("feed", x.feed(0x62697473, 0x2031303B, 0x6D757820, 0x323B2020, 0x20202020), 20);
        s.due("feed once more", x.feed(0x62697473, 0x2031313B, 0x20202020, 0x20202020, 0x20202020), 40);
        s.due("spec", x.spec(), 2);
        s.due("bits, by the latest", x.count(1), 11);
        s.due("behind an emptied tape", x.feed(0, 0, 0, 0, 0), 20);
        x.end(3);
        s.due("behind a cut tape", x.feed(0, 0, 0, 0, 0), 23);
        // bytes of numbers below 0: the fault is at the first that is none of a text
        x = new MemoryMaker();
        x.feed(0x62697473, 0x20313BFF, LOW, HIGH, -1);
        x.spec();
        s.due("a byte of 255", x.fault(1), 7);
        x.feed(LOW, 0, 0, 0, 0);
        x.spec();
        s.due("a byte of 128", x.fault(1), 0);
        // each number in its turn: a byte that is no text at each of twenty places
        for (int i = 0; i < 20; i++) {
            int[] f = Tapes.numbers("                    ", 0);
            f[i / 4] ^= 0x80 << 24 - i % 4 * 8;
            x.feed(f[0], f[1], f[2], f[3], f[4]);
            x.spec();
            s.due("a byte at " + i, x.fault(1), i);
        }
    }

    private void feedFull() {
        s.says("promise 2", "NONE, and nothing comes, if there would be more than 300.");
        MemoryMaker x = new MemoryMaker();
        for (int i = 1; i <= 14; i++) {
            s.due("feed " + i, x.feed(0x20202020, 0x20202020, 0x20202020, 0x20202020, 0x20202020), 20 * i);
        }
        s.due("just 300", x.feed(0x20202020, 0x20202020, 0x20202020, 0x20202020, 0x20202020), 300);
        s.due("more", x.feed(0, 0, 0, 0, 0), NONE);
        s.due("as many as before", x.count(16), 300);
        s.due("one byte taken away", x.end(299), 299);
        s.due("more still", x.feed(0, 0, 0, 0, 0), NONE);
        x.end(281);
        s.due("301", x.feed(0, 0, 0, 0, 0), NONE);
        s.due("281 stay", x.count(16), 281);
        s.due("blanks alone, nothing came", x.spec(), 4);
        for (int i = 1; i <= 14; i++) {
            x.feed(0, 0, 0, 0, 0);
        }
        s.due("280, then 300", x.feed(0, 0, 0, 0, 0), 300);
    }

    private void endFirst() {
        s.says("promise 3", "The tape has its first n bytes alone: n.");
        MemoryMaker x = new MemoryMaker();
        s.due("0 of none", x.end(0), 0);
        Tapes.put(x, "bits 12;mux 3;");
        s.due("all of them", x.end(14), 14);
        s.due("fewer", x.end(8), 8);
        s.due("bytes", x.count(16), 8);
        s.due("the first ones", x.spec() != NONE && x.count(1) == 12, true);
        Tapes.put(x, "bits 12;");
        s.due("none", x.end(0), 0);
        s.due("bytes of none", x.count(16), 0);
        s.due("a text of none", x.spec(), 4);
        s.due("bits as at first", x.count(1), 8);
        for (int i = 0; i < 15; i++) {
            x.feed(0, 0, 0, 0, 0);
        }
        s.due("300", x.end(300), 300);
    }

    private void endNone() {
        s.says("promise 3", "NONE if it has not so many, or n is below 0.");
        MemoryMaker x = new MemoryMaker();
        s.due("1 of none", x.end(1), NONE);
        s.due("-1 of none", x.end(-1), NONE);
        x.feed(1, 2, 3, 4, 5);
        for (int n : new int[] {21, 300, 301, HIGH, -1, -20, LOW}) {
            s.due("end(" + n + ")", x.end(n), NONE);
            s.due("bytes stay", x.count(16), 20);
        }
        x.end(5);
        s.due("taken away is taken away", x.end(6), NONE);
        for (int i = 0; i < 14; i++) {
            x.feed(0, 0, 0, 0, 0);
        }
        s.due("286 of 285", x.end(286), NONE);
    }

    private void specTaken() {
        s.says("promise 4", "The tape is taken (and is empty then, here and below) as a TEXT:");
        MemoryMaker x = new MemoryMaker();
        Tapes.put(x, "bits 9;");
        s.due("spec", x.spec() != NONE, true);
        s.due("empty", x.count(16), 0);
        Tapes.put(x, "bits 9");
        s.due("a fault", x.spec(), NONE);
        s.due("empty by a fault, too", x.count(16), 0);
        Tapes.put(x, "mux 8;words 16;");
        s.due("not fit", x.spec(), NONE);
        s.due("empty as well", x.count(16), 0);
        Tapes.put(x, "bits 9;");
        x.agree();
        s.due("below: empty by agree", x.count(16), 0);
        s.due("an empty tape is a text", x.spec(), 4);
        s.due("words as at first", x.count(0), 64);
        s.due("what was taken is not there again", x.feed(0x6D757820, 0x383B2020, 0x20202020, 0x20202020, 0x20202020), 20);
        s.due("the new one alone", x.spec(), 8);
        s.due("bits as at first", x.count(1), 8);
    }

    private void specAsTold() {
        s.says("promise 4", "the SPEC is as at first, but as told: the mux that IS.");
        MemoryMaker x = Tapes.told("words 128;bits 9;mux 2;spare 2 1;cell 4 5;margin 7;wish square;bad 1 2 0;");
        s.due("spec", Tapes.spec(x, "margin 8;"), 4);
        s.due("all else as at first", Tapes.view(x, 0), FIRST.replace("margin 20", "margin 8"));
        s.due("no bad cell", x.count(9), 0);
        s.due("nothing is given up", x.count(12) + x.count(13), 0);
        for (int m = 1; m <= 8; m *= 2) {
            s.due("spec of mux " + m, Tapes.spec(x, "mux " + m + ";"), m);
        }
        s.due("the mux that is chosen", Tapes.spec(x, "words 32;bits 1;cell 8 1;"), 2);
        s.due("by time", Tapes.spec(x, "words 32;bits 1;cell 8 1;wish time;"), 4);
        s.due("by square", Tapes.spec(x, "words 32;bits 1;cell 8 1;wish square;"), 1);
        s.due("told on the last line", Tapes.spec(x, "mux 1;mux 0;words 32;bits 1;cell 8 1;wish time;mux 2;"), 2);
    }

    private void specFault() {
        s.says("promise 4", "NONE: a FAULT (all else stays).");
        String[] faults = {"bits", "bits 99;", "bad 1 1 1;bad 1 1 1;", "words 16;mux 8;", "bad 16 0 0;", "$"};
        for (String text : faults) {
            MemoryMaker x = Tapes.told("mux 4;spare 1 1;wish time;bad 1 1 0;");
            x.image(1);
            x.write(9, 77);
            x.write(99, 0);
            s.due("spec of " + text, Tapes.spec(x, text), NONE);
            s.due("the spec", Tapes.view(x, 0), "words 64;bits 8;mux 4;spare 1 1;cell 2 3;margin 20;wish time;bad 1 1 0;");
            s.due("the mux", x.count(10), 4);
            s.due("what is given up", x.given(0, false), 1);
            s.due("cells", x.read(9), 77);
            s.due("ones", x.count(14), 4);
            s.due("why", x.why(0), 1);
            s.due("what can be undone", x.count(15), 1);
            s.due("images", x.again(1), true);
        }
    }

    private void faultOfLatest() {
        s.says("promise 5", "Of the latest spec(), what 0: the FAULT, 0 without, 1: its place, NONE without.");
        MemoryMaker x = new MemoryMaker();
        s.due("of none", x.fault(0), 0);
        s.due("place of none", x.fault(1), NONE);
        String[] texts = {"", "bits", "bits 99;", "bad 1 1 1;bad 1 1 1;", "words 16;mux 8;", "bits 9;", "$"};
        int[] faults = {0, 1, 2, 3, 5, 0, 1};
        int[] places = {NONE, 4, 5, 14, NONE, NONE, 0};
        for (int i = 0; i < texts.length; i++) {
            Tapes.spec(x, texts[i]);
            s.due("fault of " + texts[i], x.fault(0), faults[i]);
            s.due("place of " + texts[i], x.fault(1), places[i]);
        }
        x.set(7, 1);
        x.undo();
        x.agree();
        x.feed(0, 0, 0, 0, 0);
        s.due("the latest is still that", x.fault(0), 1);
        s.due("its place, too", x.fault(1), 0);
    }

    private void faultOther() {
        s.says("promise 5", "NONE for another what.");
        MemoryMaker x = new MemoryMaker();
        for (int what : new int[] {-1, 2, 3, LOW, HIGH}) {
            s.due("fault(" + what + ") without", x.fault(what), NONE);
        }
        Tapes.spec(x, "bits 99;");
        for (int what : new int[] {-1, 2, 3, LOW, HIGH}) {
            s.due("fault(" + what + ")", x.fault(what), NONE);
        }
    }

    private void setNumbers() {
        s.says("promise 6", "What 0: WORDS, 1: BITS, 2: MUX, 3: SPARE ROWS, 4: SPARE COLUMNS, 5: WIDE, 6: HIGH, 7: MARGIN, 8: WISH "
            + "is another one.");
        MemoryMaker x = new MemoryMaker();
        int[] to = {128, 9, 2, 3, 1, 5, 6, 30, 2};
        int[] is = {64, 8, 0, 1, 0, 2, 3, 20, 0};
        for (int what = 0; what < 9; what++) {
            s.due("set(" + what + ", " + to[what] + ")", x.set(what, to[what]), 0);
            is[what] = to[what];
            for (int other = 0; other < 9; other++) {
                s.due("count(" + other + ") behind set(" + what + ")", x.count(other), is[other]);
            }
        }
        s.due("all of them", Tapes.view(x, 0), "words 128;bits 9;mux 2;spare 3 1;cell 5 6;margin 30;wish square;");
        for (int what : new int[] {-1, 9, LOW, HIGH}) {
            s.due("set(" + what + ")", x.set(what, 1), 1);
        }
        s.due("nothing by these", Tapes.view(x, 0), "words 128;bits 9;mux 2;spare 3 1;cell 5 6;margin 30;wish square;");
        // a refused one leaves all as it was
        x = Tapes.told("mux 8;bad 7 63 1;");
        x.write(0, 255);
        x.set(0, 32);
        x.set(1, 7);
        x.set(2, 1);
        s.due("as it was", Tapes.view(x, 0), FIRST.replace("mux 0", "mux 8") + "bad 7 63 1;");
        s.due("cells, too", x.read(0), 255);
        s.due("one act alone", x.count(15), 1);
    }

    private void badCell() {
        s.says("promise 7", "A cell of ROWS and COLUMNS that there could be (as in a TEXT) is BAD, STUCK at a bit.");
        MemoryMaker x = Tapes.told("words 512;bits 32;mux 1;spare 0 0;");
        s.due("row 511, column 31", x.bad(511, 31, 1), 0);
        s.due("row 0, column 0", x.bad(0, 0, 0), 0);
        s.due("stuck at 1", x.read(511), LOW);
        x.write(0, -1);
        s.due("stuck at 0", x.read(0), -2);
        s.due("row 512", x.bad(512, 0, 0), 1);
        s.due("column 32, which could be", x.bad(0, 32, 0), 4);
        s.due("column 255, which could be", x.bad(0, 255, 0), 4);
        s.due("column 256, which could not", x.bad(0, 256, 0), 1);
        x = Tapes.told("words 1024;bits 32;mux 8;spare 0 0;");
        s.due("row 127, column 255", x.bad(127, 255, 1), 0);
        s.due("row 128, which could be", x.bad(128, 0, 0), 4);
        s.due("row 511, which could be", x.bad(511, 0, 0), 4);
        for (int bit : new int[] {-1, 2, 3, LOW, HIGH}) {
            s.due("stuck at " + bit, x.bad(1, 1, bit), 1);
        }
        for (int at : new int[] {-1, LOW, HIGH}) {
            s.due("row " + at, x.bad(at, 1, 0), 1);
            s.due("column " + at, x.bad(1, at, 0), 1);
        }
        s.due("one alone is bad", x.count(9), 1);
        s.due("one act", x.count(15), 1);
    }

    private void healCell() {
        s.says("promise 8", "A BAD cell is not any more (those behind it come up).");
        MemoryMaker x = Tapes.told("bad 1 2 0;bad 3 4 1;bad 5 6 0;bad 7 8 1;");
        s.due("one between", x.heal(3, 4), 0);
        s.due("three", x.count(9), 3);
        int[][] left = {{1, 2, 0}, {5, 6, 0}, {7, 8, 1}};
        for (int k = 0; k < 3; k++) {
            for (int what = 0; what < 3; what++) {
                s.due("cell(" + k + ", " + what + ")", x.cell(k, what), left[k][what]);
            }
        }
        s.due("no fourth", x.cell(3, 0), NONE);
        s.due("the last", x.heal(7, 8), 0);
        s.due("nothing comes up", x.cell(1, 0), 5);
        s.due("two", x.cell(2, 0), NONE);
        s.due("the first", x.heal(1, 2), 0);
        s.due("the other comes up", x.cell(0, 0), 5);
        s.due("the only one", x.heal(5, 6), 0);
        s.due("none is left", x.count(9), 0);
        s.due("none to be healed", x.heal(5, 6), 2);
        s.due("no such one", x.cell(0, 0), NONE);
        x = Tapes.told("bad 0 0 1;bad 1 0 1;bad 2 0 1;bad 3 0 1;bad 4 0 1;bad 5 0 1;bad 6 0 1;bad 7 0 1;bad 8 0 1;bad 9 0 1;"
            + "bad 10 0 1;bad 11 0 1;");
        s.due("the first of twelve", x.heal(0, 0), 0);
        s.due("the 12th came up", x.cell(10, 0), 11);
        s.due("there is no 12th", x.cell(11, 0), NONE);
        // it is read again as it was written
        x = Tapes.told("spare 0 0;bad 0 0 1;");
        s.due("stuck", x.read(0), 1);
        x.heal(0, 0);
        s.due("not any more", x.read(0), 0);
        s.due("its row and column the wrong way round", Tapes.told("bad 1 2 0;").heal(2, 1), 2);
    }

    private void writeLowest() {
        s.says("promise 9", "The lowest BITS of a value are written to an address (no reason 2).");
        for (int bits : new int[] {1, 2, 8, 31, 32}) {
            int mask = bits == 32 ? -1 : (1 << bits) - 1;
            for (int value : new int[] {0, 1, 2, 255, 256, -1, LOW, HIGH, 0x12345678}) {
                MemoryMaker x = Tapes.told("bits " + bits + ";");
                s.due("write", x.write(63, value), 0);
                s.due("read of " + value + " by " + bits, x.read(63), value & mask);
                s.due("no cell beside it", x.count(14), Integer.bitCount(value & mask));
                s.due("the same once more", x.write(63, value), 0);
                s.due("is an act", x.count(15), 2);
            }
        }
        MemoryMaker x = new MemoryMaker();
        s.due("0 over 0", x.write(0, 0), 0);
        for (int address : new int[] {64, -1, 1024, LOW, HIGH}) {
            s.due("write(" + address + ")", x.write(address, 1), 1);
        }
        s.due("nothing is written", x.count(14), 0);
        x.write(0, 255);
        x.write(0, 1);
        s.due("0 over 1", x.read(0), 1);
        // all addresses, each by itself
        x = Tapes.told("mux 2;");
        for (int address = 0; address < 64; address++) {
            x.write(address, 3 * address + 1);
        }
        for (int address = 0; address < 64; address++) {
            s.due("read(" + address + ")", x.read(address), 3 * address + 1 & 255);
        }
    }

    private void dueWhy(MemoryMaker x, int... reasons) {
        for (int level = 0; level < 3; level++) {
            s.due("why(" + level + ")", x.why(level), reasons[level]);
        }
    }

    private void whyLevels() {
        s.says("promise 10", "Why the latest ACT was REFUSED: level 0, or what it comes of, level 1 (of 4), level 2 (of 5): the "
            + "reason.");
        MemoryMaker x = Tapes.told("mux 8;");
        x.set(0, 32);
        dueWhy(x, 4, 5, 7);
        x.set(0, 33);
        dueWhy(x, 1, 0, 0);
        x.set(0, 64);
        dueWhy(x, 2, 0, 0);
        x.bad(8, 0, 0);
        dueWhy(x, 4, 6, 0);
        x.heal(1, 1);
        dueWhy(x, 2, 0, 0);
        x.write(64, 1);
        dueWhy(x, 1, 0, 0);
        for (int i = 0; i < 12; i++) {
            x.bad(i % 8, i, 0);
        }
        dueWhy(x, 0, 0, 0);
        x.bad(7, 63, 0);
        dueWhy(x, 3, 0, 0);
        x = Tapes.told("words 1024;");
        x.set(2, 1);
        dueWhy(x, 4, 5, 8);
        x.set(2, 1);
        dueWhy(x, 4, 5, 8);
    }

    private void whyNot() {
        s.says("promise 10", "0: it was not, there is no such level.");
        MemoryMaker x = new MemoryMaker();
        dueWhy(x, 0, 0, 0);
        x.set(2, 8);
        x.set(0, 16);
        dueWhy(x, 4, 5, 7);
        x.set(7, 1);
        dueWhy(x, 0, 0, 0);
        x.set(0, 16);
        x.write(0, 1);
        dueWhy(x, 0, 0, 0);
        x.set(0, 16);
        x.bad(1, 1, 1);
        dueWhy(x, 0, 0, 0);
        x.set(0, 16);
        x.heal(1, 1);
        dueWhy(x, 0, 0, 0);
        x.set(2, 3);
        dueWhy(x, 1, 0, 0);
    }

    private void whyOther() {
        s.says("promise 10", "NONE: another level (0 .. 2).");
        MemoryMaker x = Tapes.told("mux 8;");
        for (int level : new int[] {-1, 3, 4, LOW, HIGH}) {
            s.due("why(" + level + ")", x.why(level), NONE);
        }
        x.set(0, 16);
        for (int level : new int[] {-1, 3, 4, LOW, HIGH}) {
            s.due("why(" + level + ") of a refused one", x.why(level), NONE);
        }
    }

    private void undoLatest() {
        s.says("promise 11", "The latest ACT is UNDONE (CELLS, too): how many more can be.");
        MemoryMaker x = Tapes.told("mux 4;spare 1 1;bad 1 1 0;");
        x.write(5, 9);
        x.write(8, 200);
        x.set(0, 128);
        x.bad(31, 31, 1);
        x.heal(1, 1);
        x.set(2, 0);
        s.due("set of mux", x.undo(), 5);
        s.due("mux", x.count(2), 4);
        s.due("heal", x.undo(), 4);
        s.due("the healed one is the first again", x.cell(0, 0), 1);
        s.due("and the other the second", x.cell(1, 0), 31);
        s.due("bad", x.undo(), 3);
        s.due("one bad cell", x.count(9), 1);
        s.due("nothing was written by 128 words", x.count(14), 0);
        s.due("set of words", x.undo(), 2);
        s.due("words", x.count(0), 64);
        s.due("cells, those in the spare row, too", x.read(5), 9);
        s.due("cells", x.read(8), 200);
        s.due("write", x.undo(), 1);
        s.due("not written", x.read(8), 0);
        s.due("what was written ahead of it", x.read(5), 9);
        s.due("the first", x.undo(), 0);
        s.due("no cell is written", x.count(14), 0);
        s.due("the text is as it was", Tapes.view(x, 0), FIRST.replace("mux 0;spare 1 0", "mux 4;spare 1 1") + "bad 1 1 0;");
        x = Tapes.told("spare 0 1;mux 4;");
        x.write(0, 1);
        x.bad(3, 0, 1);
        x.write(0, 1);
        x.undo();
        s.due("a cell in a spare column", x.read(0), 0);
        x.undo();
        s.due("the column in its own place", x.read(0), 1);
        tapeStays();
    }

    private void tapeStays() {
        MemoryMaker x = Tapes.told("mux 8;");
        x.set(7, 5);
        Tapes.put(x, "bits 9;");
        x.set(0, 16);
        x.image(0);
        s.due("undo", x.undo(), 0);
        s.due("the tape is no part of it", x.count(16), 7);
        s.due("nor is why", x.why(2), 7);
        s.due("nor are images", x.again(0), true);
        s.due("which have it", x.count(7), 5);
    }

    private void undoNone() {
        s.says("promise 11", "NONE: none can.");
        MemoryMaker x = new MemoryMaker();
        s.due("none", x.undo(), NONE);
        x.set(0, 65);
        s.due("a refused one", x.undo(), NONE);
        x.write(0, 1);
        s.due("one", x.undo(), 0);
        s.due("none again", x.undo(), NONE);
        s.due("none still", x.undo(), NONE);
        s.due("and all is as at first", Tapes.view(x, 0), FIRST);
        for (int i = 0; i < 7; i++) {
            x.write(i, 1);
        }
        for (int i = 5; i >= 0; i--) {
            s.due("undo", x.undo(), i);
        }
        s.due("a 7th", x.undo(), NONE);
        s.due("which stays", x.read(0), 1);
        s.due("and no other", x.count(14), 1);
    }
}
