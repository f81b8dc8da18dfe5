/** The document's terms, 3: tape, TEXTS, FAULTS, VIEWS, reasons; a test for each sentence. */
public final class TextSentencesTest {
    private static final int NONE = -1;
    private static final int LOW = Integer.MIN_VALUE;
    private static final int HIGH = Integer.MAX_VALUE;
    private static final String FIRST = "words 64;bits 8;mux 0;spare 1 0;cell 2 3;margin 20;wish area;";

    private final Sentences s = new Sentences("terms 3", "constants", "acts", "asks");

    public static void main(String[] args) {
        TextSentencesTest t = new TextSentencesTest();
        t.texts();
        t.faults();
        t.views();
        t.reasons();
        t.heads();
        t.s.end();
    }

    private void texts() {
        tape();
        tokens();
        lines();
        laterOnesStrike();
    }

    private void faults() {
        places();
        noText();
        noToken();
        firstByPlace();
        wrongNumber();
        toldTwice();
        thirteenth();
        notFit();
    }

    private void views() {
        viewZero();
        viewBlanks();
        viewOne();
    }

    private void reasons() {
        acts();
        cantBe();
        soAlready();
        twelve();
        wouldNotBeFit();
        comesOf();
        comesOfRows();
        latestSix();
        leaveNone();
    }

    private void heads() {
        constant();
        asked();
        whatThereIs();
    }

    private void dueFault(String text, int fault, int place) {
        MemoryMaker x = new MemoryMaker();
        s.due("spec of \"" + text + "\"", Tapes.spec(x, text), NONE);
        s.due("fault of \"" + text + "\"", x.fault(0), fault);
        s.due("place of \"" + text + "\"", x.fault(1), place);
    }

    private void dueText(String text, String view) {
        MemoryMaker x = new MemoryMaker();
        s.due("spec of \"" + text + "\"", Tapes.spec(x, text), x.count(10));
        s.due("fault of \"" + text + "\"", x.fault(0), 0);
        s.due("place of \"" + text + "\"", x.fault(1), NONE);
        s.due("view 0 of \"" + text + "\"", Tapes.view(x, 0), view);
    }

    private static String twelveBad() {
        StringBuilder all = new StringBuilder();
        for (int i = 0; i < 12; i++) {
            all.append("bad ").append(i).append(" 0 1;");
        }
        return all.toString();
    }

    private void tape() {
        s.says("terms 3", "THE TAPE has at most 300 bytes.");
        MemoryMaker x = new MemoryMaker();
        for (int i = 1; i <= 15; i++) {
            s.due("feed", x.feed(0, 0, 0, 0, 0), 20 * i);
        }
        s.due("one more", x.feed(0, 0, 0, 0, 0), NONE);
        s.due("bytes", x.count(16), 300);
        // a text of just 300 bytes, the last one a ;
        StringBuilder text = new StringBuilder("bits 9");
        while (text.length() < 299) {
            text.append(text.length() % 2 == 0 ? ' ' : '\n');
        }
        text.append(';');
        dueText(text.toString(), FIRST.replace("bits 8", "bits 9"));
        text.setLength(299);
        text.append(' ');
        dueFault(text.toString(), 1, 300);
        StringBuilder blanks = new StringBuilder();
        for (int i = 0; i < 300; i++) {
            blanks.append(' ');
        }
        dueText(blanks.toString(), FIRST);
        blanks.setCharAt(299, ';');
        dueFault(blanks.toString(), 1, 299);
        // a word and a number that end where the tape does
        dueFault(blanks.substring(0, 297) + "mux", 1, 300);
        dueFault(blanks.substring(0, 292) + "mux   44", 1, 300);
        dueFault(blanks.substring(0, 292) + "bits 999", 1, 300);
        dueFault(blanks.substring(0, 291) + "bits 999;", 2, 296);
    }

    private void tokens() {
        s.says("terms 3", "TOKENS, as long as they go, blanks (32, 10) between: words, letters a to z; NUMBERS, 1 to 6 digits; ; "
            + "one byte.");
        dueText("", FIRST);
        dueText(" ", FIRST);
        dueText("\n", FIRST);
        dueText("  \n bits \n\n  9 \n ; \n", FIRST.replace("bits 8", "bits 9"));
        dueText("bits 9;bits 10;", FIRST.replace("bits 8", "bits 10"));
        dueText("bits9;", FIRST.replace("bits 8", "bits 9"));
        dueText("bits 000009;", FIRST.replace("bits 8", "bits 9"));
        dueText("margin 0;", FIRST.replace("margin 20", "margin 0"));
        dueText("margin 000000;", FIRST.replace("margin 20", "margin 0"));
        dueText("spare 000004 000002;", FIRST.replace("spare 1 0", "spare 4 2"));
        // as long as they go: no token is broken in two
        dueFault("bi ts 9;", 1, 0);
        dueFault("bits 1 0;", 1, 7);
        dueFault("spare 12;", 1, 8);
        dueFault("wisharea;", 1, 0);
        dueFault("wish areawish time;", 1, 5);
        // what stands beside blanks, letters, digits and ; is no token
        for (int sign : new int[] {0, 1, 9, 11, 13, 31, 33, 47, 58, 60, 64, 'A', 'Z', 91, 96, 123, 127, 128, 160, 255}) {
            dueFault((char) sign + "bits 9;", 1, 0);
            dueFault("bits" + (char) sign + "9;", 1, 4);
            dueFault("bits 9" + (char) sign + ";", 1, 6);
            dueFault("bits 9;" + (char) sign, 1, 7);
        }
        dueText("wish square;", FIRST.replace("area", "square"));
    }

    private void lines() {
        s.says("terms 3", "A TEXT: {LINE ';'}: 'words' N | 'bits' N | 'mux' N | 'spare' N N (ROWS, COLUMNS) | 'cell' N N (WIDE, "
            + "HIGH) | 'margin' N | 'wish' ('area' | 'time' | 'square') | 'bad' N N N (ROW, COLUMN, bit).");
        dueText("", FIRST);
        dueText("words 128;", FIRST.replace("words 64", "words 128"));
        dueText("bits 32;", FIRST.replace("bits 8", "bits 32"));
        dueText("mux 8;", FIRST.replace("mux 0", "mux 8"));
        dueText("spare 3 2;", FIRST.replace("spare 1 0", "spare 3 2"));
        dueText("cell 5 7;", FIRST.replace("cell 2 3", "cell 5 7"));
        dueText("margin 21;", FIRST.replace("margin 20", "margin 21"));
        dueText("wish time;", FIRST.replace("area", "time"));
        dueText("wish square;", FIRST.replace("area", "square"));
        dueText("wish area;", FIRST);
        dueText("bad 1 2 0;", FIRST + "bad 1 2 0;");
        // each line wants its ; and just its numbers
        String[] all = {"words 64", "bits 8", "mux 4", "spare 1 0", "cell 2 3", "margin 20", "wish area", "bad 1 2 0"};
        for (String line : all) {
            dueFault(line, 1, line.length());
            dueFault(line + " 1;", 1, line.length() + 1);
            dueFault(line + " bits 8;", 1, line.length() + 1);
            dueFault(line.substring(0, line.lastIndexOf(' ')) + ";", 1, line.lastIndexOf(' '));
            dueFault(line + ";;", 1, line.length() + 1);
            dueFault(";" + line + ";", 1, 0);
        }
        for (String word : new String[] {"area", "time", "square", "rows", "size", "w", "wor", "wordss", "columns"}) {
            dueFault(word + " 8;", 1, 0);
        }
        dueFault("8;", 1, 0);
        dueFault("wish 0;", 1, 5);
        dueFault("wish words;", 1, 5);
        dueFault("mux area;", 1, 4);
    }

    private void laterOnesStrike() {
        s.says("terms 3", "Later ones strike, but bad, which are further ones.");
        dueText("words 16;words 128;", FIRST.replace("words 64", "words 128"));
        dueText("mux 1;bits 4;mux 8;bits 5;mux 2;", FIRST.replace("bits 8;mux 0", "bits 5;mux 2"));
        dueText("spare 4 2;spare 0 1;", FIRST.replace("spare 1 0", "spare 0 1"));
        dueText("cell 9 9;margin 1;cell 20 1;margin 2;", FIRST.replace("cell 2 3;margin 20", "cell 20 1;margin 2"));
        dueText("wish square;wish time;", FIRST.replace("area", "time"));
        dueText("mux 8;mux 0;", FIRST);
        dueText("bad 3 4 1;bits 7;bad 1 2 0;bad 2 1 1;", FIRST.replace("bits 8", "bits 7") + "bad 3 4 1;bad 1 2 0;bad 2 1 1;");
        // not fit by the first ones, fit by the later ones
        dueText("words 16;mux 8;words 128;", FIRST.replace("words 64;bits 8;mux 0", "words 128;bits 8;mux 8"));
        dueText("bad 31 0 1;mux 8;mux 2;", FIRST.replace("mux 0", "mux 2") + "bad 31 0 1;");
        // but a number that can't be is a fault, though a later one strikes
        dueFault("mux 3;mux 4;", 2, 4);
    }

    private void places() {
        s.says("terms 3", "FAULTS, with places (a token's first byte; the end's):");
        dueFault("  bitz 9;", 1, 2);
        dueFault("bits\n\n  99;", 2, 8);
        dueFault("bits 99999;", 2, 5);
        dueFault("mux", 1, 3);
        dueFault("mux ", 1, 4);
        dueFault("mux \n ", 1, 6);
        dueFault("mux 4", 1, 5);
        dueFault("bits 8;mux 4  ", 1, 14);
        dueFault("bits 8; spare  1", 1, 16);
        // of a tape that was cut: the bytes behind its end are no part of it
        MemoryMaker x = new MemoryMaker();
        Tapes.put(x, "mux 44;bits 9;");
        x.end(5);
        s.due("spec of a cut tape", x.spec(), NONE);
        s.due("its fault", x.fault(0), 1);
        s.due("its place", x.fault(1), 5);
        Tapes.put(x, "muxxx");
        x.end(3);
        x.spec();
        s.due("a word that is cut", x.fault(1), 3);
        Tapes.put(x, "bits 11111");
        x.end(7);
        Tapes.put(x, ";");
        s.due("a number that is cut", x.spec() != NONE && x.count(1) == 11, true);
    }

    private void noText() {
        s.says("terms 3", "1 the first byte or token with which no text goes on");
        dueFault("bitz 9;", 1, 0);
        dueFault("bits 9;bitz 9;", 1, 7);
        dueFault("bits;", 1, 4);
        dueFault("bits 9 9;", 1, 7);
        dueFault("wish best;", 1, 5);
        dueFault("bits 9;$", 1, 7);
        dueFault("bits 9$;", 1, 6);
        dueFault("bits -9;", 1, 5);
        dueFault("bits +9;", 1, 5);
        dueFault("bits 9.0;", 1, 6);
        dueFault("Bits 9;", 1, 0);
        dueFault("bIts 9;", 1, 0);
        dueFault("bits 9,", 1, 6);
        // one letter that is another, fewer, or more
        for (String line : new String[] {"words", "bits", "mux", "spare", "cell", "margin", "bad", "wish"}) {
            String rest = restOf(line);
            for (int i = 0; i < line.length(); i++) {
                dueFault(line.substring(0, i) + "q" + line.substring(i + 1) + rest, 1, 0);
                dueFault(line.substring(0, i) + line.substring(i + 1) + rest, 1, 0);
            }
            for (char more : new char[] {'a', 'q', 'z'}) {
                dueFault(line + more + rest, 1, 0);
                dueFault(more + line + rest, 1, 0);
            }
        }
        for (String wish : new String[] {"area", "time", "square"}) {
            for (int i = 0; i < wish.length(); i++) {
                dueFault("wish " + wish.substring(0, i) + "z" + wish.substring(i + 1) + ";", 1, 5);
            }
            dueFault("wish " + wish + "z;", 1, 5);
            dueFault("wish z" + wish + ";", 1, 5);
        }
        // the first of two
        dueFault("bits 9;bitz $;", 1, 7);
        dueFault("bits ;$", 1, 5);
        // ahead of all others, though it stands behind them
        dueFault("bits 99;mux 3;$", 1, 14);
        dueFault("bad 1 1 1;bad 1 1 1;bits", 1, 24);
        dueFault(twelveBad() + "bad 12 0 1", 1, twelveBad().length() + 10);
        dueFault("words 16;mux 8;x", 1, 15);
    }

    private static String restOf(String word) {
        switch (word) {
            case "wish": return " area;";
            case "bad": return " 1 1 1;";
            case "spare": case "cell": return " 1 1;";
            case "words": return " 64;";
            default: return " 4;";
        }
    }

    private void noToken() {
        s.says("terms 3", "(a longer row of digits, a word of more than 8 letters, is no token).");
        dueFault("bits 0000009;", 1, 5);
        dueFault("bits 1234567;", 1, 5);
        dueFault("bits 123456;", 2, 5);
        dueFault("bits 999999;", 2, 5);
        dueFault("bits 99999999999999999999;", 1, 5);
        dueFault("bits 4294967304;", 1, 5);
        dueFault("bad 1 2 0000000;", 1, 8);
        // a word of 9 letters is at fault as one of 8 is that no LINE has
        dueFault("squaress 9;", 1, 0);
        dueFault("squaresss 9;", 1, 0);
        dueFault("bits 9;bitsbitsbits 9;", 1, 7);
        dueFault("wish squaresss;", 1, 5);
        dueFault("wish areaareaarea;", 1, 5);
        dueFault("bits 9;1234567", 1, 7);
    }

    private void firstByPlace() {
        s.says("terms 3", "If there is none, the first by place, of one place the least:");
        dueFault("mux 3;bits 99;", 2, 4);
        dueFault("bits 99;mux 3;", 2, 5);
        dueFault("spare 5 3;", 2, 6);
        dueFault("cell 0 0;", 2, 5);
        dueFault("bad 512 256 2;", 2, 4);
        dueFault("bad 1 256 2;", 2, 6);
        // 3 at the row is ahead of 2 at the bit
        dueFault("bad 1 1 0;bad 1 1 2;", 3, 14);
        dueFault("bad 1 1 0;mux 3;bad 1 1 0;", 2, 14);
        dueFault("bad 1 1 0;bad 1 1 0;mux 3;", 3, 14);
        // 4 at the word is ahead of 2 and 3 at its numbers
        int end = twelveBad().length();
        dueFault(twelveBad() + "bad 0 0 1;", 4, end);
        dueFault(twelveBad() + "bad 512 0 1;", 4, end);
        dueFault(twelveBad() + "mux 3;bad 12 0 1;", 2, end + 4);
        dueFault(twelveBad() + "bad 12 0 1;mux 3;", 4, end);
        // the same row that can't be, twice: 2 of the first one is ahead of both
        dueFault("bad 512 0 0;bad 512 0 0;", 2, 4);
        dueFault("bad 1 256 0;bad 1 256 0;", 2, 6);
    }

    private void wrongNumber() {
        s.says("terms 3", "2 a NUMBER that can't be (as above; of bad ROW 0 .. 511, COLUMN 0 .. 255, bit 0, 1);");
        String[] one = {"words 0;", "words 8;", "words 15;", "words 17;", "words 48;", "words 1023;", "words 2048;", "bits 0;",
            "bits 33;", "mux 3;", "mux 5;", "mux 16;", "margin 101;", "spare 5 0;", "cell 0 3;", "cell 21 3;", "bad 512 0 0;",
            "bad 999999 0 0;"};
        for (String text : one) {
            dueFault(text, 2, text.indexOf(' ') + 1);
        }
        dueFault("spare 1 3;", 2, 8);
        dueFault("cell 2 0;", 2, 7);
        dueFault("cell 2 21;", 2, 7);
        dueFault("bad 0 256 0;", 2, 6);
        dueFault("bad 0 0 2;", 2, 8);
        dueFault("bad 511 255 9;", 2, 12);
        // the greatest of each: these can be, in a memory that has them
        dueFault("bad 511 255 1;", 5, NONE);
        dueText("words 512;mux 1;bits 32;bad 511 31 1;bad 0 0 0;", "words 512;bits 32;mux 1;spare 1 0;cell 2 3;margin 20;"
            + "wish area;bad 511 31 1;bad 0 0 0;");
        dueText("mux 8;bits 32;bad 7 255 1;", "words 64;bits 32;mux 8;spare 1 0;cell 2 3;margin 20;wish area;bad 7 255 1;");
        dueText("words 16;bits 1;spare 0 0;cell 1 1;margin 0;mux 1;", "words 16;bits 1;mux 1;spare 0 0;cell 1 1;margin 0;"
            + "wish area;");
        dueText("words 1024;bits 32;spare 4 2;cell 20 20;margin 100;mux 8;", "words 1024;bits 32;mux 8;spare 4 2;cell 20 20;"
            + "margin 100;wish area;");
    }

    private void toldTwice() {
        s.says("terms 3", "3 a BAD cell told twice (at its ROW);");
        dueFault("bad 1 2 0;bad 1 2 0;", 3, 14);
        dueFault("bad 1 2 0;bad 1 2 1;", 3, 14);
        dueFault("bad 1 2 0;bad  01 002 0;", 3, 15);
        dueFault("bad 1 2 0;bad 2 2 0;bad 3 2 0;bad 1 2 0;", 3, 34);
        dueFault("bad 1 2 0;bad 2 2 0;bad 2 2 0;bad 1 2 0;", 3, 24);
        // as the last of twelve
        dueFault(twelveBad().replace("bad 11 0 1;", "bad 10 0 1;"), 3, twelveBad().length() - 7);
        dueText("bad 1 2 0;bad 2 1 0;", FIRST + "bad 1 2 0;bad 2 1 0;");
        dueText("bad 1 12 0;bad 11 2 0;", FIRST + "bad 1 12 0;bad 11 2 0;");
    }

    private void thirteenth() {
        s.says("terms 3", "4 the word of a 13th.");
        dueText(twelveBad(), FIRST + twelveBad());
        int end = twelveBad().length();
        dueFault(twelveBad() + "bad 12 0 1;", 4, end);
        dueFault(twelveBad() + " \n bad 12 0 1;", 4, end + 3);
        dueFault(twelveBad() + "bits 8;bad 12 0 1;", 4, end + 7);
        dueFault(twelveBad() + "bad 12 0 1;bad 13 0 1;", 4, end);
    }

    private void notFit() {
        s.says("terms 3", "If there is none: 5 the SPEC is not FIT (place NONE).");
        dueFault("mux 8;words 32;", 5, NONE);
        dueFault("mux 4;words 16;", 5, NONE);
        dueFault("mux 1;words 1024;", 5, NONE);
        dueFault("bad 16 0 1;", 5, NONE);
        dueFault("bad 0 32 1;", 5, NONE);
        dueFault("bad 0 0 1;bad 1 1 1;bad 16 0 1;", 5, NONE);
        dueText("bad 15 31 1;", FIRST + "bad 15 31 1;");
        dueFault("mux 8;words 32;margin 101;", 2, 22);
        dueFault("bad 16 0 1;bad 16 0 1;", 3, 15);
        MemoryMaker x = Tapes.told("mux 2;");
        x.spec();
        s.due("a text that is fit takes it away", x.fault(0), 0);
    }

    private void viewZero() {
        s.says("terms 3", "VIEW 0 is a TEXT that tells the SPEC: words, bits, mux (the MUX told), spare, cell, margin, wish, then "
            + "bad ones as they came,");
        s.due("as at first", Tapes.view(new MemoryMaker(), 0), FIRST);
        MemoryMaker x = Tapes.told("bad 9 9 1;bad 3 3 0;mux 4;wish time;");
        x.set(2, 0);
        x.bad(5, 5, 1);
        x.heal(3, 3);
        x.bad(3, 3, 1);
        s.due("after acts", Tapes.view(x, 0), FIRST.replace("area", "time") + "bad 9 9 1;bad 5 5 1;bad 3 3 1;");
        // the longest there can be: it is no longer than a tape
        StringBuilder text = new StringBuilder("words 1024;bits 32;mux 8;spare 4 2;cell 20 20;margin 100;wish square;");
        for (int i = 0; i < 12; i++) {
            text.append("bad ").append(127 - i).append(" 255 1;");
        }
        x = Tapes.told(text.toString());
        s.due("the longest", Tapes.view(x, 0), text.toString());
        s.due("a text that tells it", Tapes.view(Tapes.told(Tapes.view(x, 0)), 0), text.toString());
        String shortest = "words 16;bits 1;mux 0;spare 0 0;cell 1 1;margin 0;wish area;";
        s.due("the shortest", Tapes.view(Tapes.told(shortest), 0), shortest);
    }

    private void viewBlanks() {
        s.says("terms 3", "each LINE as above, one blank between its TOKENS, none ahead of and behind ;.");
        String text = " words  128 ;\n bits\n9;mux2;spare 0002 1 ; cell 4  5;margin   007;wish\nsquare ;bad 01 2  0;";
        String view = "words 128;bits 9;mux 2;spare 2 1;cell 4 5;margin 7;wish square;bad 1 2 0;";
        dueText(text, view);
        dueText(view, view);
        s.due("the last byte", new MemoryMaker().view(0, FIRST.length() - 1), ';');
    }

    private void viewOne() {
        s.says("terms 3", "VIEW 1: 'size' WIDTH HEIGHT ';' 'time' READ CYCLE ';' 'rows' ROWS GIVEN-UP-ROWS ';' 'columns' COLUMNS "
            + "GIVEN-UP-COLUMNS ';' 'stages' n and SIZES from the first on ';' , by the mux that IS, likewise (GIVEN UP: how many).");
        s.due("as at first", Tapes.view(new MemoryMaker(), 1),
            "size 124 100;time 386 405;rows 16 0;columns 32 0;stages 4 2 1 3 10;");
        s.due("two stages", Tapes.view(Tapes.told("words 16;bits 1;mux 2;"), 1),
            "size 43 68;time 189 217;rows 8 0;columns 2 0;stages 2 1 1;");
        s.due("eight stages", Tapes.view(Tapes.told("words 1024;bits 32;mux 8;spare 4 2;cell 20 20;margin 100;bad 0 0 1;"
            + "bad 1 1 1;bad 2 1 1;"), 1),
            "size 5375 2714;time 4220 4659;rows 128 1;columns 256 1;stages 8 7 1 1 1 3 8 29 111;");
        MemoryMaker x = Tapes.told("mux 4;spare 1 1;bad 0 0 1;bad 1 1 1;bad 2 2 1;");
        s.due("not mended: none of both", Tapes.view(x, 1).contains(";rows 16 0;columns 32 0;"), true);
        x.heal(2, 2);
        s.due("mended: one of both", Tapes.view(x, 1).contains(";rows 16 1;columns 32 1;"), true);
    }

    private void acts() {
        s.says("terms 3", "ACTS: set(), bad(), heal(), write().");
        MemoryMaker x = new MemoryMaker();
        x.set(7, 1);
        s.due("set", x.count(15), 1);
        x.bad(1, 1, 1);
        s.due("bad", x.count(15), 2);
        x.heal(1, 1);
        s.due("heal", x.count(15), 3);
        x.write(0, 0);
        s.due("write", x.count(15), 4);
        x.feed(0, 0, 0, 0, 0);
        x.end(0);
        x.agree();
        x.image(0);
        x.test(true);
        x.read(0);
        x.most(1, 1);
        x.fewest();
        x.view(0, 0);
        s.due("no others", x.count(15), 4);
        x.write(64, 0);
        s.due("refused", x.why(0), 1);
        x.feed(0, 0, 0, 0, 0);
        x.end(99);
        x.read(64);
        x.count(99);
        x.spec();
        x.agree();
        x.image(9);
        x.again(9);
        x.undo();
        s.due("the latest one is that", x.why(0), 1);
    }

    private void cantBe() {
        s.says("terms 3", "REFUSED: 1 it can't be: another what, a number as above, no such address;");
        MemoryMaker x = new MemoryMaker();
        for (int what : new int[] {-1, 9, 10, 17, LOW, HIGH}) {
            s.due("set(" + what + ", 1)", x.set(what, 1), 1);
        }
        int[][] numbers = {{0, 63}, {0, 8}, {0, 2048}, {1, 0}, {1, 33}, {2, -1}, {2, 3}, {2, 16}, {3, -1}, {3, 5}, {4, -1},
            {4, 3}, {5, 0}, {5, 21}, {6, 0}, {6, 21}, {7, -1}, {7, 101}, {8, -1}, {8, 3}};
        for (int[] n : numbers) {
            s.due("set(" + n[0] + ", " + n[1] + ")", x.set(n[0], n[1]), 1);
        }
        int[][] cells = {{-1, 0, 0}, {512, 0, 0}, {0, -1, 0}, {0, 256, 0}, {0, 0, -1}, {0, 0, 2}, {LOW, 0, 0}, {0, HIGH, 0}};
        for (int[] c : cells) {
            s.due("bad(" + c[0] + ", " + c[1] + ", " + c[2] + ")", x.bad(c[0], c[1], c[2]), 1);
            if (c[2] == 0) {
                s.due("heal(" + c[0] + ", " + c[1] + ")", x.heal(c[0], c[1]), 1);
            }
        }
        for (int address : new int[] {-1, 64, 65, 1024, LOW, HIGH}) {
            s.due("write(" + address + ", 1)", x.write(address, 1), 1);
        }
        s.due("nothing is other than at first", Tapes.view(x, 0), FIRST);
        s.due("no cell is written", x.count(14), 0);
        s.due("nothing can be undone", x.count(15), 0);
    }

    private void soAlready() {
        s.says("terms 3", "2 so already (set: that number; bad: it is BAD; heal: it isn't);");
        MemoryMaker x = new MemoryMaker();
        int[] first = {64, 8, 0, 1, 0, 2, 3, 20, 0};
        for (int what = 0; what < 9; what++) {
            s.due("set(" + what + ", " + first[what] + ")", x.set(what, first[what]), 2);
        }
        s.due("mux 4, which it is, but was not told", x.set(2, 4), 0);
        s.due("mux 4 once more", x.set(2, 4), 2);
        s.due("bad", x.bad(1, 1, 0), 0);
        s.due("it is", x.bad(1, 1, 0), 2);
        s.due("it is, whatever the bit", x.bad(1, 1, 1), 2);
        s.due("its bit stays", x.cell(0, 2), 0);
        s.due("another one isn't", x.heal(1, 2), 2);
        s.due("nor that", x.heal(2, 1), 2);
        s.due("nor one that there could be", x.heal(511, 255), 2);
        s.due("heal", x.heal(1, 1), 0);
        s.due("it isn't any more", x.heal(1, 1), 2);
        s.due("three acts", x.count(15), 3);
    }

    private void twelve() {
        s.says("terms 3", "3 there are 12;");
        MemoryMaker x = Tapes.told(twelveBad());
        s.due("a 13th", x.bad(12, 0, 1), 3);
        s.due("why", x.why(0), 3);
        s.due("it comes of nothing", x.why(1), 0);
        s.due("twelve", x.count(9), 12);
        x.heal(0, 0);
        s.due("a 12th", x.bad(12, 0, 1), 0);
        s.due("a 13th again", x.bad(0, 0, 1), 3);
        x.undo();
        s.due("eleven", x.count(9), 11);
        s.due("another 12th", x.bad(13, 0, 1), 0);
    }

    private void wouldNotBeFit() {
        s.says("terms 3", "4 the SPEC would not be FIT;");
        MemoryMaker x = Tapes.told("mux 4;bad 15 31 1;");
        s.due("fewer words", x.set(0, 32), 4);
        s.due("fewer bits", x.set(1, 7), 4);
        s.due("fewer rows", x.set(2, 8), 4);
        s.due("fewer columns", x.set(2, 2), 4);
        s.due("a row too far", x.bad(16, 0, 0), 4);
        s.due("a column too far", x.bad(0, 32, 0), 4);
        s.due("more words", x.set(0, 128), 0);
        s.due("more bits", x.set(1, 9), 0);
        x = Tapes.told("bad 0 31 1;");
        s.due("wide cells, by which another mux would be chosen", x.set(5, 20), 4);
        s.due("as it was", x.count(5), 2);
        s.due("nothing can be undone", x.count(15), 0);
    }

    private void dueWhy(int reason, int cause, int root, MemoryMaker x) {
        s.due("why(0)", x.why(0), reason);
        s.due("why(1)", x.why(1), cause);
        s.due("why(2)", x.why(2), root);
    }

    private void comesOf() {
        s.says("terms 3", "4 comes of 5 (MUX is not POSSIBLE), or else of 6 (a BAD cell lies outside);");
        MemoryMaker x = Tapes.told("mux 8;");
        s.due("4 rows", x.set(0, 32), 4);
        dueWhy(4, 5, 7, x);
        s.due("a row outside", x.bad(8, 0, 0), 4);
        dueWhy(4, 6, 0, x);
        s.due("a column outside", x.bad(0, 64, 0), 4);
        dueWhy(4, 6, 0, x);
        // both: 5 is asked first
        x.bad(7, 63, 0);
        s.due("4 rows, and a cell in the 8th", x.set(0, 32), 4);
        dueWhy(4, 5, 7, x);
        s.due("a cell in no column", x.set(1, 7), 4);
        dueWhy(4, 6, 0, x);
        // by MUX 0 some is POSSIBLE
        x = Tapes.told("bad 15 0 0;");
        s.due("fewer rows by mux 0", x.set(0, 16), 4);
        dueWhy(4, 6, 0, x);
    }

    private void comesOfRows() {
        s.says("terms 3", "5 comes of 7 (ROWS are fewer than 8), or 8 (more than 512).");
        MemoryMaker x = Tapes.told("words 16;");
        s.due("16 by 8", x.set(2, 8), 4);
        dueWhy(4, 5, 7, x);
        s.due("16 by 4", x.set(2, 4), 4);
        dueWhy(4, 5, 7, x);
        s.due("16 by 2", x.set(2, 2), 0);
        dueWhy(0, 0, 0, x);
        x = Tapes.told("words 1024;");
        s.due("1024 by 1", x.set(2, 1), 4);
        dueWhy(4, 5, 8, x);
        s.due("1024 by 2", x.set(2, 2), 0);
        x = Tapes.told("words 512;mux 1;");
        s.due("1024 words", x.set(0, 1024), 4);
        dueWhy(4, 5, 8, x);
        x = Tapes.told("mux 8;");
        s.due("16 words", x.set(0, 16), 4);
        dueWhy(4, 5, 7, x);
    }

    private void latestSix() {
        s.says("terms 3", "The latest 6 that were not REFUSED can be UNDONE.");
        MemoryMaker x = new MemoryMaker();
        for (int i = 1; i <= 20; i++) {
            x.set(7, i == 20 ? 0 : i);
            s.due("after " + i, x.count(15), Math.min(i, 6));
            x.set(7, 101);
            x.bad(0, 0, 2);
            x.heal(0, 0);
            x.write(64, 0);
            s.due("refused ones are none", x.count(15), Math.min(i, 6));
        }
        for (int i = 0; i < 6; i++) {
            s.due("undo", x.undo(), 5 - i);
            s.due("margin", x.count(7), 19 - i);
        }
        s.due("a 7th", x.undo(), NONE);
        s.due("margin stays", x.count(7), 14);
        x.set(7, 50);
        x.set(7, 51);
        s.due("two new ones", x.count(15), 2);
        s.due("undo of one", x.undo(), 1);
        x.set(7, 52);
        s.due("undo of another", x.undo(), 1);
        s.due("its margin", x.count(7), 50);
        s.due("undo of the first", x.undo(), 0);
        s.due("as it was", x.count(7), 14);
    }

    private void leaveNone() {
        s.says("terms 3", "spec() without a FAULT, again() leave none.");
        MemoryMaker x = new MemoryMaker();
        x.image(0);
        x.set(7, 1);
        s.due("spec with a fault", Tapes.spec(x, "mux 3;"), NONE);
        s.due("leaves one", x.count(15), 1);
        s.due("spec that is not fit", Tapes.spec(x, "mux 8;words 16;"), NONE);
        s.due("leaves one, too", x.count(15), 1);
        s.due("again of no image", x.again(1), false);
        s.due("leaves one as well", x.count(15), 1);
        Tapes.spec(x, "mux 8;");
        s.due("spec leaves none", x.count(15), 0);
        s.due("undo", x.undo(), NONE);
        x.set(7, 1);
        x.again(0);
        s.due("again leaves none", x.count(15), 0);
        s.due("undo, too", x.undo(), NONE);
        x.set(7, 2);
        s.due("a new one", x.undo(), 0);
    }

    private void constant() {
        s.says("constants", "The constants: NONE = -1: There is none.");
        s.due("NONE", MemoryMaker.NONE, -1);
    }

    private void asked() {
        s.says("acts", "Ahead of the calls set, bad, heal, write, why, undo the interface says: ---- acts: 0, or why it is REFUSED "
            + "(asked in the order of the reasons).");
        MemoryMaker x = Tapes.told("mux 4;" + twelveBad());
        s.due("1, and it is so already", x.bad(0, 0, 2), 1);
        s.due("1, and there are 12", x.bad(512, 0, 0), 1);
        s.due("2, and there are 12", x.bad(11, 0, 0), 2);
        s.due("3, and it lies outside", x.bad(16, 0, 0), 3);
        s.due("3, and it lies outside, too", x.bad(511, 255, 1), 3);
        x.heal(0, 0);
        s.due("4", x.bad(16, 0, 0), 4);
        s.due("0", x.bad(0, 0, 0), 0);
        s.due("set: 1", x.set(0, 65), 1);
        s.due("set: 2", x.set(0, 64), 2);
        s.due("set: 4", x.set(0, 32), 4);
        s.due("set: 0", x.set(0, 128), 0);
        s.due("heal: 1", x.heal(512, 0), 1);
        s.due("heal: 2", x.heal(511, 0), 2);
        s.due("heal: 0", x.heal(0, 0), 0);
        s.due("write: 1", x.write(128, 0), 1);
        s.due("write: 0", x.write(127, 0), 0);
    }

    private void whatThereIs() {
        s.says("asks", "Ahead of the calls count, shape, wished, given, cell, place, read, test, view, agree, most, fewest, image, "
            + "again the interface says: ---- what there is.");
        for (int i : new int[] {LOW, -2, -1, 0, 1, 2, 3, 4, 5, 7, 8, 9, 17, 18, 19, 20, 27, 28, 64, HIGH}) {
            MemoryMaker x = Tapes.told("words 16;mux 2;spare 0 0;bad 1 1 1;");
            x.write(5, 254);
            x.write(16, 1);
            String before = all(x);
            x.count(i);
            x.shape(4, i);
            x.shape(i, 2);
            x.wished(i);
            x.given(i, true);
            x.cell(i, 3);
            x.place(i, 0, 2);
            x.read(i);
            x.test(i > 0);
            x.view(0, i);
            x.view(1, i);
            x.most(i, i);
            x.fewest();
            x.fault(i);
            x.why(i);
            s.due("asking with " + i + " changes nothing", all(x), before);
        }
    }

    /** What a maker tells of itself. */
    private static String all(MemoryMaker x) {
        StringBuilder s = new StringBuilder(Tapes.view(x, 0)).append(Tapes.view(x, 1));
        for (int what = 0; what < 18; what++) {
            s.append(x.count(what)).append(' ');
        }
        for (int address = 0; address < x.count(0); address++) {
            s.append(x.read(address)).append(' ');
        }
        return s.append(x.why(0)).append(x.why(1)).append(x.why(2)).append(x.fault(0)).append(x.fault(1)).toString();
    }
}
