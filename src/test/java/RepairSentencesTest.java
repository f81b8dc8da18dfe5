/** The document's terms, 2: what is GIVEN UP, and where CELLS are; a test for each sentence. */
public final class RepairSentencesTest {
    private static final int NONE = -1;
    private static final int LOW = Integer.MIN_VALUE;
    private static final int HIGH = Integer.MAX_VALUE;

    private final Sentences s = new Sentences("terms 2");

    public static void main(String[] args) {
        RepairSentencesTest t = new RepairSentencesTest();
        t.noMoreThanSpare();
        t.asFewAsCanBe();
        t.fewestColumns();
        t.leastByRows();
        t.leastByColumns();
        t.mended();
        t.notMended();
        t.addressesAndBits();
        t.rowAndColumn();
        t.placesOfGivenUp();
        t.stuck();
        t.zeroAtFirst();
        t.zeroBySpec();
        t.elseItStays();
        t.s.end();
    }

    /** BAD cells in rows and columns 0 0, 1 1, 2 2 and on: each wants a row or a column for itself. */
    private static String diagonal(int n) {
        StringBuilder all = new StringBuilder();
        for (int i = 0; i < n; i++) {
            all.append("bad ").append(i).append(' ').append(i).append(" 1;");
        }
        return all.toString();
    }

    private void dueGiven(String text, int[] rows, int[] columns) {
        MemoryMaker x = Tapes.told(text);
        s.due("mended: " + text, x.count(11), 1);
        s.due("rows given up: " + text, x.count(12), rows.length);
        s.due("columns given up: " + text, x.count(13), columns.length);
        for (int k = 0; k < rows.length; k++) {
            s.due("row " + k + ": " + text, x.given(k, false), rows[k]);
        }
        for (int k = 0; k < columns.length; k++) {
            s.due("column " + k + ": " + text, x.given(k, true), columns[k]);
        }
        s.due("no row more: " + text, x.given(rows.length, false), NONE);
        s.due("no column more: " + text, x.given(columns.length, true), NONE);
    }

    private void dueNotMended(String text) {
        MemoryMaker x = Tapes.told(text);
        s.due("mended: " + text, x.count(11), 0);
        s.due("rows given up: " + text, x.count(12), 0);
        s.due("columns given up: " + text, x.count(13), 0);
        s.due("no row: " + text, x.given(0, false), NONE);
        s.due("no column: " + text, x.given(0, true), NONE);
        for (int k = 0; k < x.count(9); k++) {
            s.due("bad cell " + k + " is in none: " + text, x.cell(k, 3), 0);
        }
    }

    private void noMoreThanSpare() {
        s.says("terms 2", "GIVEN UP are ROWS and COLUMNS (no more than there are SPARE ones of each), so that each BAD cell is "
            + "in one of these:");
        for (int rows = 0; rows <= 4; rows++) {
            for (int columns = 0; columns <= 2; columns++) {
                String text = "mux 4;spare " + rows + " " + columns + ";";
                MemoryMaker x = Tapes.told(text + diagonal(rows + columns));
                s.due("all spare ones: " + text, x.count(11), 1);
                s.due("all rows: " + text, x.count(12), rows);
                s.due("all columns: " + text, x.count(13), columns);
                for (int k = 0; k < rows + columns; k++) {
                    s.due("bad cell " + k + " is in one: " + text, x.cell(k, 3), 1);
                }
                dueNotMended(text + diagonal(rows + columns + 1));
            }
        }
        // twelve cells in two columns, more rows than there are
        dueGiven("mux 4;spare 0 2;bad 0 3 1;bad 1 3 1;bad 2 3 1;bad 3 3 1;bad 4 3 1;bad 5 3 1;bad 6 9 1;bad 7 9 1;bad 8 9 1;"
            + "bad 9 9 1;bad 10 9 1;bad 11 9 1;", new int[0], new int[] {3, 9});
        // twelve cells in four rows
        dueGiven("mux 4;spare 4 0;bad 0 0 1;bad 0 1 1;bad 0 2 1;bad 5 3 1;bad 5 4 1;bad 5 5 1;bad 9 6 1;bad 9 7 1;bad 9 8 1;"
            + "bad 15 9 1;bad 15 10 1;bad 15 31 1;", new int[] {0, 5, 9, 15}, new int[0]);
        // twelve columns, of which the last two are given up
        dueGiven("mux 4;spare 4 2;bad 0 0 1;bad 0 1 1;bad 0 2 1;bad 5 3 1;bad 5 4 1;bad 5 5 1;bad 9 6 1;bad 9 7 1;bad 9 8 1;"
            + "bad 15 9 1;bad 14 30 1;bad 13 31 1;", new int[] {0, 5, 9, 13}, new int[] {9, 30});
        dueGiven("mux 4;spare 3 2;bad 0 10 1;bad 0 1 1;bad 0 2 1;bad 5 3 1;bad 5 4 1;bad 5 5 1;bad 9 6 1;bad 9 7 1;bad 9 8 1;"
            + "bad 9 9 1;bad 14 30 1;bad 13 31 1;", new int[] {0, 5, 9}, new int[] {30, 31});
    }

    private void asFewAsCanBe() {
        s.says("terms 2", "as few as can be in all,");
        dueGiven("mux 4;spare 4 2;", new int[0], new int[0]);
        // one column for what would take two rows
        dueGiven("mux 4;spare 4 2;bad 3 7 1;bad 9 7 0;", new int[0], new int[] {7});
        // one row for what would take two columns
        dueGiven("mux 4;spare 4 2;bad 3 7 1;bad 3 8 0;", new int[] {3}, new int[0]);
        // a column and a row, though four rows would do
        dueGiven("mux 4;spare 4 2;bad 1 5 1;bad 2 5 1;bad 3 5 1;bad 8 6 1;", new int[] {8}, new int[] {5});
        // two columns, though the row 4 has the most cells: four rows or a row and two columns would be more
        dueGiven("mux 4;spare 4 2;bad 4 1 1;bad 4 2 1;bad 1 1 1;bad 2 1 1;bad 3 2 1;bad 5 2 1;",
            new int[0], new int[] {1, 2});
        // three rows and a column, though all rows alone would be five
        dueGiven("mux 4;spare 4 1;bad 0 0 1;bad 1 0 1;bad 2 2 1;bad 3 3 1;bad 4 4 1;", new int[] {2, 3, 4}, new int[] {0});
    }

    private void fewestColumns() {
        s.says("terms 2", "of several with fewest COLUMNS,");
        dueGiven("mux 4;spare 1 1;bad 5 6 1;", new int[] {5}, new int[0]);
        dueGiven("mux 4;spare 4 2;" + diagonal(4), new int[] {0, 1, 2, 3}, new int[0]);
        dueGiven("mux 4;spare 2 2;bad 1 1 1;bad 1 2 1;bad 2 1 1;bad 2 2 1;", new int[] {1, 2}, new int[0]);
        // two in all: a row and a column, or two columns
        dueGiven("mux 4;spare 1 2;bad 1 0 1;bad 2 0 1;bad 9 3 1;", new int[] {9}, new int[] {0});
        // the row 0 would be the least, but it takes two columns beside it
        dueGiven("mux 4;spare 2 2;bad 0 5 1;bad 7 6 1;bad 8 9 1;", new int[] {0, 7}, new int[] {9});
    }

    private void leastByRows() {
        s.says("terms 2", "then the least by ROWS, rising (the first one ahead),");
        // column 1 or column 9
        dueGiven("mux 4;spare 1 1;bad 7 1 1;bad 3 9 1;", new int[] {3}, new int[] {1});
        dueGiven("mux 4;spare 1 1;bad 3 1 1;bad 7 9 1;", new int[] {3}, new int[] {9});
        // rows 1 and 9, or 2 and 3: the first one is ahead
        dueGiven("mux 4;spare 2 1;bad 2 0 1;bad 3 0 1;bad 1 1 1;bad 9 1 1;", new int[] {1, 9}, new int[] {0});
        // rows 1, 4, 9 or 1, 5, 6: the second one; the greater column is given up for that
        dueGiven("mux 4;spare 3 1;bad 1 0 1;bad 4 0 1;bad 9 0 1;bad 1 1 1;bad 5 1 1;bad 6 1 1;",
            new int[] {1, 4, 9}, new int[] {1});
        // rows 1, 4, 5, 8 or 1, 4, 5, 7: the last one
        dueGiven("mux 4;spare 4 1;bad 1 0 1;bad 4 0 1;bad 5 0 1;bad 8 0 1;bad 1 1 1;bad 4 1 1;bad 5 1 1;bad 7 1 1;",
            new int[] {1, 4, 5, 7}, new int[] {0});
        // in whatever order they came
        dueGiven("mux 4;spare 4 0;bad 9 0 1;bad 2 1 1;bad 15 2 1;bad 0 3 1;", new int[] {0, 2, 9, 15}, new int[0]);
        // 10 is behind 9, as a number
        dueGiven("mux 4;spare 1 1;bad 10 1 1;bad 9 9 1;", new int[] {9}, new int[] {1});
    }

    private void leastByColumns() {
        s.says("terms 2", "then by COLUMNS.");
        // of the same ROWS the COLUMNS are those of all other BAD cells, so that there are never several
        dueGiven("mux 4;spare 0 2;bad 3 9 1;bad 3 1 1;", new int[0], new int[] {1, 9});
        dueGiven("mux 4;spare 0 2;bad 1 10 1;bad 3 9 1;", new int[0], new int[] {9, 10});
        dueGiven("mux 4;spare 1 2;bad 1 2 1;bad 1 3 1;bad 1 4 1;bad 2 9 1;bad 3 9 1;bad 2 5 1;bad 3 5 1;",
            new int[] {1}, new int[] {5, 9});
        dueGiven("mux 8;spare 0 2;bad 1 63 1;bad 3 0 1;", new int[0], new int[] {0, 63});
    }

    private void mended() {
        s.says("terms 2", "The memory is MENDED, if there are such;");
        s.due("no bad cell, no spare one", Tapes.told("spare 0 0;").count(11), 1);
        s.due("no bad cell", new MemoryMaker().count(11), 1);
        MemoryMaker x = Tapes.told("mux 4;spare 1 0;");
        x.bad(3, 3, 1);
        s.due("one", x.count(11), 1);
        x.bad(3, 4, 1);
        s.due("another one of the same row", x.count(11), 1);
        x.bad(4, 4, 1);
        s.due("one of another row", x.count(11), 0);
        x.set(3, 2);
        s.due("with one spare row more", x.count(11), 1);
        x.set(3, 0);
        s.due("without", x.count(11), 0);
        x.set(4, 2);
        s.due("with two spare columns", x.count(11), 1);
        x.set(4, 1);
        s.due("with one", x.count(11), 0);
        x.heal(3, 3);
        s.due("healed, one column is left", x.count(11), 1);
    }

    private void notMended() {
        s.says("terms 2", "if not, nothing is GIVEN UP.");
        dueNotMended("mux 4;spare 0 0;bad 3 3 1;");
        dueNotMended("mux 4;spare 1 0;bad 3 3 1;bad 4 3 1;");
        dueNotMended("mux 4;spare 0 1;bad 3 3 1;bad 3 4 1;");
        dueNotMended("mux 4;spare 4 2;" + diagonal(7));
        dueNotMended("mux 4;spare 4 2;" + diagonal(12));
        MemoryMaker x = Tapes.told("mux 4;spare 1 0;bad 3 3 1;bad 4 3 1;");
        s.due("row 3 is in its own place", x.place(12, 0, 0), 3);
        s.due("the bad cell is read", x.place(15, 0, 3), 1);
    }

    private void addressesAndBits() {
        s.says("terms 2", "A CELL of an address (0 to WORDS less 1) and a bit (0 to BITS less 1):");
        for (int words : new int[] {16, 64, 1024}) {
            for (int bits : new int[] {1, 8, 32}) {
                MemoryMaker x = Tapes.told("words " + words + ";bits " + bits + ";");
                for (int what = 0; what < 4; what++) {
                    s.due("the first", x.place(0, 0, what), 0);
                    s.due("the last", x.place(words - 1, bits - 1, what) >= 0, true);
                    s.due("the address behind", x.place(words, 0, what), NONE);
                    s.due("the address ahead", x.place(-1, 0, what), NONE);
                    s.due("the bit behind", x.place(0, bits, what), NONE);
                    s.due("the bit ahead", x.place(0, -1, what), NONE);
                    s.due("far below", x.place(LOW, LOW, what), NONE);
                    s.due("far above", x.place(HIGH, HIGH, what), NONE);
                }
                s.due("write to the last", x.write(words - 1, 1), 0);
                s.due("write behind it", x.write(words, 1), 1);
                s.due("read the last", x.read(words - 1), 1);
                s.due("read behind it", x.read(words), 0);
            }
        }
    }

    private void rowAndColumn() {
        s.says("terms 2", "its ROW is the address by m, its COLUMN the bit times m and the address modulo m.");
        for (int m = 1; m <= 8; m *= 2) {
            for (int bit = 0; bit < 8; bit++) {
                MemoryMaker x = Tapes.told("mux " + m + ";");
                for (int address = 0; address < 64; address++) {
                    s.due("row of " + address + " by " + m, x.place(address, bit, 0), address / m);
                    s.due("column of " + address + ", " + bit + " by " + m, x.place(address, bit, 1), bit * m + address % m);
                }
            }
        }
        MemoryMaker x = Tapes.told("words 1024;bits 32;mux 8;");
        s.due("the last row", x.place(1023, 31, 0), 127);
        s.due("the last column", x.place(1023, 31, 1), 255);
        x = Tapes.told("words 512;bits 32;mux 1;");
        s.due("the last of 512 rows", x.place(511, 31, 0), 511);
        s.due("the last of 32 columns", x.place(511, 31, 1), 31);
    }

    private void placesOfGivenUp() {
        s.says("terms 2", "A ROW that is GIVEN UP, the i-th rising, is in place ROWS and i, a COLUMN likewise in place COLUMNS "
            + "and i.");
        MemoryMaker x = Tapes.told("mux 4;spare 4 0;bad 9 0 1;bad 2 1 1;bad 15 2 1;bad 0 3 1;");
        int[] rows = {0, 2, 9, 15};
        for (int i = 0; i < 4; i++) {
            s.due("place of row " + rows[i], x.place(4 * rows[i], 7, 0), 16 + i);
            s.due("its columns are where they were", x.place(4 * rows[i], 7, 1), 28);
        }
        s.due("another row", x.place(4, 0, 0), 1);
        x = Tapes.told("mux 4;spare 0 2;bad 9 31 1;bad 2 0 1;");
        s.due("place of column 0", x.place(0, 0, 1), 32);
        s.due("in each row", x.place(60, 0, 1), 32);
        s.due("place of column 31", x.place(63, 7, 1), 33);
        s.due("its rows are where they were", x.place(63, 7, 0), 15);
        s.due("another column", x.place(1, 0, 1), 1);
        // not all spare ones are used: the i-th goes by those that are
        x = Tapes.told("mux 4;spare 4 2;bad 9 5 1;bad 3 7 1;bad 4 7 1;bad 5 7 1;");
        s.due("row 9", x.place(36, 0, 0), 16);
        s.due("column 7", x.place(3, 1, 1), 32);
        s.due("both, row", x.place(39, 1, 0), 16);
        s.due("both, column", x.place(39, 1, 1), 32);
        // the last places that there can be
        x = Tapes.told("words 512;bits 32;mux 1;spare 4 0;bad 508 0 1;bad 509 1 1;bad 510 2 1;bad 511 3 1;");
        s.due("row 511", x.place(511, 31, 0), 515);
        x = Tapes.told("words 1024;bits 32;mux 8;spare 0 2;bad 0 254 1;bad 1 255 1;");
        s.due("column 255", x.place(1023, 31, 1), 257);
        writtenThere();
    }

    /** Each of these places keeps what is written to it, and no other one does. */
    private void writtenThere() {
        String[] texts = {"words 64;bits 8;mux 4;spare 4 0;bad 0 0 1;bad 1 1 1;bad 14 2 1;bad 15 3 1;",
            "words 64;bits 8;mux 1;spare 0 2;bad 0 0 1;bad 1 7 1;",
            "words 64;bits 8;mux 8;spare 0 2;bad 0 62 1;bad 1 63 1;",
            "words 64;bits 8;mux 8;spare 0 2;bad 0 0 1;bad 1 8 1;",
            "words 128;bits 8;mux 2;spare 2 2;bad 0 0 1;bad 1 0 1;bad 2 0 1;bad 3 15 1;bad 4 15 1;bad 5 15 1;bad 62 3 1;bad 63 5 1;"};
        for (String text : texts) {
            MemoryMaker x = Tapes.told(text);
            int words = x.count(0);
            for (int round = 0; round < 2; round++) {
                for (int address = 0; address < words; address++) {
                    x.write(address, 37 * address + 101 * round);
                }
                for (int address = 0; address < words && 4 * words < 480; address++) {
                    s.due("read(" + address + ") of " + text, x.read(address), 37 * address + 101 * round & 255);
                }
            }
            for (int address = 0; address < words; address++) {
                s.due("once more read(" + address + ") of " + text, x.read(address), 37 * address + 101 & 255);
            }
        }
        // the last words that there can be: in the last of four spare rows, by the greatest mux, and of 512 rows
        MemoryMaker x = Tapes.told("words 1024;bits 32;mux 8;spare 4 0;bad 124 0 1;bad 125 1 1;bad 126 2 1;bad 127 3 1;");
        for (int i = 0; i < 8; i++) {
            x.write(1016 + i, LOW + i);
        }
        for (int i = 0; i < 8; i++) {
            s.due("read of the last row", x.read(1016 + i), LOW + i);
        }
        x = Tapes.told("words 512;bits 32;mux 1;spare 4 2;bad 0 30 1;bad 1 30 1;bad 2 30 1;bad 3 31 1;bad 4 31 1;bad 5 31 1;"
            + "bad 508 0 1;bad 509 1 1;bad 510 2 1;bad 511 3 1;");
        for (int i = 0; i < 4; i++) {
            s.due("row " + (508 + i), x.place(508 + i, 31, 0), 512 + i);
            s.due("its last column", x.place(508 + i, 31, 1), 33);
            x.write(508 + i, i << 30);
        }
        for (int i = 0; i < 4; i++) {
            s.due("bits in spare rows and columns", x.read(508 + i), i << 30);
        }
    }

    private void stuck() {
        s.says("terms 2", "A BAD cell that is read (its place, both not GIVEN UP) tells the bit at which it is STUCK, whatever "
            + "was written.");
        MemoryMaker x = Tapes.told("mux 4;spare 0 0;bad 1 1 0;bad 1 5 1;");
        for (int value : new int[] {0, 1, 2, 3, 255, -1}) {
            x.write(5, value);
            s.due("stuck at 0", x.place(5, 0, 2), 0);
            s.due("told by a bad one", x.place(5, 0, 3), 1);
            s.due("stuck at 1", x.place(5, 1, 2), 1);
            s.due("told by a bad one, too", x.place(5, 1, 3), 1);
            s.due("all of them", x.read(5), value & 252 | 2);
            s.due("the next address", x.read(6), 0);
            s.due("the next row", x.read(9), 0);
        }
        x = Tapes.told("mux 4;spare 1 0;bad 1 1 1;");
        s.due("its row is given up", x.read(5), 0);
        s.due("not told by it", x.place(5, 0, 3), 0);
        x = Tapes.told("mux 4;spare 0 1;bad 1 1 1;");
        s.due("its column is given up", x.read(5), 0);
        s.due("not told by it, either", x.place(5, 0, 3), 0);
        x = Tapes.told("words 16;bits 32;mux 1;spare 0 0;bad 15 31 1;bad 0 31 0;");
        s.due("the highest bit at 1", x.read(15), LOW);
        x.write(0, -1);
        s.due("the highest bit at 0", x.read(0), HIGH);
    }

    private void dueCleared(String text, int what, int v) {
        MemoryMaker x = Tapes.told(text);
        for (int address = 0; address < 16; address++) {
            x.write(address, -1);
        }
        s.due("ones of " + text, x.count(14) > 0, true);
        int before = x.count(what);
        s.due("set(" + what + ", " + v + ") of " + text, x.set(what, v), 0);
        s.due("all are 0", x.count(14), 0);
        s.due("and back", x.set(what, before), 0);
        s.due("all are 0 still", x.count(14), 0);
    }

    private void zeroAtFirst() {
        s.says("terms 2", "All CELLS are 0 at first, and whenever WORDS, BITS, the mux that IS, or SPARE ROWS or COLUMNS become "
            + "another number,");
        MemoryMaker x = new MemoryMaker();
        for (int address = 0; address < 64; address++) {
            s.due("read(" + address + ")", x.read(address), 0);
        }
        s.due("ones", x.count(14), 0);
        dueCleared("mux 4;", 0, 128);
        dueCleared("mux 4;", 0, 32);
        dueCleared("mux 4;", 1, 9);
        dueCleared("mux 4;", 1, 7);
        dueCleared("mux 4;", 2, 2);
        dueCleared("mux 4;", 2, 8);
        dueCleared("mux 4;", 3, 0);
        dueCleared("mux 4;", 3, 2);
        dueCleared("mux 4;", 4, 1);
        // the mux that is becomes another one by a wish, 2, 4, 1, and by wide and high
        dueCleared("words 32;bits 1;cell 8 1;", 8, 1);
        dueCleared("words 32;bits 1;cell 8 1;", 8, 2);
        dueCleared("mux 8;", 2, 0);
        dueCleared("", 5, 20);
        // cells in places of spare rows and columns, too
        x = Tapes.told("mux 4;spare 1 1;bad 1 1 1;bad 2 1 1;bad 9 9 1;");
        x.write(37, -1);
        x.write(5, -1);
        x.set(1, 9);
        x.set(1, 8);
        s.due("the spare row", x.read(37), 0);
        s.due("the spare column", x.read(5), 0);
    }

    private void zeroBySpec() {
        s.says("terms 2", "or a SPEC is read;");
        MemoryMaker x = new MemoryMaker();
        x.write(5, 163);
        s.due("a text that tells the same", Tapes.spec(x, "words 64;"), 4);
        s.due("all are 0", x.count(14), 0);
        x.write(5, 163);
        s.due("no text at all", Tapes.spec(x, ""), 4);
        s.due("all are 0, too", x.count(14), 0);
        x.write(5, 163);
        s.due("a text with a fault", Tapes.spec(x, "words 65;"), NONE);
        s.due("is none that is read", x.read(5), 163);
        s.due("nor is one that is not fit", Tapes.spec(x, "mux 8;words 16;"), NONE);
        s.due("what was written stays", x.read(5), 163);
    }

    private void elseItStays() {
        s.says("terms 2", "else what was written stays in its PLACES (row, column), which CELLS of other ROWS come to by BAD and "
            + "HEAL alone.");
        MemoryMaker x = new MemoryMaker();
        x.write(5, 163);
        s.due("mux 4, which it is, told", x.set(2, 4), 0);
        int[][] numbers = {{5, 20}, {6, 20}, {7, 100}, {8, 1}, {8, 2}};
        for (int[] n : numbers) {
            s.due("set(" + n[0] + ", " + n[1] + ")", x.set(n[0], n[1]), 0);
            s.due("stays", x.read(5), 163);
        }
        s.due("refused, as it is not fit", x.set(0, 16), 4);
        s.due("stays by that, too", x.read(5), 163);
        // one spare row: ROW 1 has it, then ROW 3, then ROW 1 again, and what was written there by each
        x = Tapes.told("mux 4;spare 1 0;");
        x.write(4, 17);
        x.write(12, 18);
        x.bad(1, 0, 1);
        s.due("the spare row is empty", x.read(4), 0);
        x.write(4, 33);
        s.due("row 1 is healed", x.heal(1, 0), 0);
        s.due("its own place, not given up any more", x.read(4), 17);
        x.bad(3, 0, 1);
        s.due("row 3 comes to the place where row 1 was", x.read(12), 33);
        s.due("row 1 is in its own", x.read(4), 17);
        x.bad(3, 1, 1);
        s.due("another cell of the row", x.read(12), 33);
        x.bad(1, 0, 1);
        s.due("not mended: row 3 is in its own place", x.read(12), 19);
        s.due("and row 1", x.read(4), 17);
        x.heal(3, 0);
        x.heal(3, 1);
        s.due("row 1 has the spare row again", x.read(4), 33);
        s.due("row 3 is as it was", x.read(12), 18);
        columnsStay();
    }

    private void columnsStay() {
        // a row that is less comes: the i-th rising is another one
        MemoryMaker x = Tapes.told("mux 4;spare 2 0;bad 9 0 1;");
        x.write(36, 5);
        x.bad(2, 0, 1);
        s.due("row 9 is the second now", x.read(36), 0);
        s.due("row 2 comes to the place where row 9 was", x.read(8), 5);
        // one spare column
        x = Tapes.told("mux 4;spare 0 1;");
        x.write(0, 3);
        x.bad(7, 0, 1);
        s.due("column 0 is empty", x.read(0), 2);
        x.write(0, 0);
        x.heal(7, 0);
        s.due("column 0 has what it had, column 4 what is new", x.read(0), 1);
        x.bad(7, 0, 1);
        s.due("the spare column has what is new", x.read(0), 0);
        x.write(0, 1);
        x.heal(7, 0);
        x.write(0, 0);
        x.bad(7, 4, 1);
        s.due("column 4 comes to the place where column 0 was", x.read(0), 2);
        // of both spare columns, in each row, what was written is there until they are given up again
        x = Tapes.told("words 16;mux 1;spare 0 2;bad 3 6 1;bad 4 7 1;");
        for (int address = 0; address < 16; address++) {
            x.write(address, 16 * address + address);
        }
        x.heal(3, 6);
        x.heal(4, 7);
        for (int address = 0; address < 16; address++) {
            s.due("columns 6 and 7 were not written", x.read(address), 17 * address & 63);
            x.write(address, 255);
        }
        x.bad(3, 6, 1);
        x.bad(4, 7, 1);
        for (int address = 0; address < 16; address++) {
            s.due("columns 6 and 7 in the spare ones", x.read(address), 17 * address & 192 | 63);
        }
    }
}
