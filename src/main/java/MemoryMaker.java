import java.util.Arrays;

/**
 * Memories made by a maker. Words in capitals are the document's terms.
 *
 * What calls change stands in one State; what follows from it (the mux that IS, what is GIVEN UP)
 * stands in one Wiring, made anew after each change, so that undo() and again() need not keep it.
 */
public final class MemoryMaker {
    public static final int NONE = -1;

    private static final int WORDS = 0;
    private static final int BITS = 1;
    private static final int MUX = 2;
    private static final int SPARE_ROWS = 3;
    private static final int SPARE_COLUMNS = 4;
    private static final int WIDE = 5;
    private static final int HIGH = 6;
    private static final int MARGIN = 7;
    private static final int WISH = 8;
    private static final int NUMBERS = 9;

    private static final int[] AT_FIRST = {64, 8, 0, 1, 0, 2, 3, 20, 0};
    private static final int[] LEAST = {16, 1, 0, 0, 0, 1, 1, 0, 0};
    private static final int[] GREATEST = {1024, 32, 8, 4, 2, 20, 20, 100, 2};

    private static final int LEAST_WORDS = 16;
    private static final int MOST_WORDS = 1024;
    private static final int LEAST_ROWS = 8;
    private static final int MOST_ROWS = 512;
    private static final int MOST_COLUMNS = 256;
    private static final int MOST_SPARE_ROWS = 4;
    private static final int MOST_SPARE_COLUMNS = 2;
    private static final int MOST_BAD = 12;
    private static final int MOST_FOLD = 3;
    private static final int MOST_STAGES = 8;
    private static final int MOST_PULLS = 16;
    private static final int WISHES = 3;
    private static final int TAPE_BYTES = 300;
    private static final int MOST_UNDONE = 6;
    private static final int IMAGES = 3;

    private static final int CANT_BE = 1;
    private static final int SO_ALREADY = 2;
    private static final int TWELVE = 3;
    private static final int NOT_FIT = 4;
    private static final int NOT_POSSIBLE = 5;
    private static final int LIES_OUTSIDE = 6;
    private static final int TOO_FEW_ROWS = 7;
    private static final int TOO_MANY_ROWS = 8;

    private static final int NO_TEXT = 1;
    private static final int WRONG_NUMBER = 2;
    private static final int TOLD_TWICE = 3;
    private static final int THIRTEENTH = 4;
    private static final int TOLD_NOT_FIT = 5;

    /** The LINES of a TEXT in VIEW 0's order: the first number that one tells, and how many. */
    private static final int[] LINE_TELLS = {WORDS, BITS, MUX, SPARE_ROWS, WIDE, MARGIN, WISH, NUMBERS};
    private static final int[] LINE_NUMBERS = {1, 1, 1, 2, 2, 1, 0, 3};
    private static final int LINES = 8;
    private static final int WISH_LINE = 6;
    private static final int BAD_LINE = 7;

    private final State now = new State();
    private final State[] images = new State[IMAGES];
    private final Past past = new Past();
    private final Wiring wiring = new Wiring();
    private final Shape form = new Shape();
    private final Spec trial = new Spec();
    private final Reader reader = new Reader();
    private final Text text = new Text();

    public MemoryMaker() {
        settle();
    }

    public int feed(int a, int b, int c, int d, int e) {
        Tape tape = now.tape;
        if (!tape.hasRoom(20)) {
            return NONE;
        }
        tape.append(a);
        tape.append(b);
        tape.append(c);
        tape.append(d);
        tape.append(e);
        return tape.length;
    }

    public int end(int n) {
        if (n < 0 || n > now.tape.length) {
            return NONE;
        }
        now.tape.length = n;
        return n;
    }

    public int spec() {
        reader.take(now.tape);
        now.tape.length = 0;
        now.fault = reader.fault;
        now.faultPlace = reader.faultPlace;
        if (now.fault == 0 && unfit(reader.told) != 0) {
            now.fault = TOLD_NOT_FIT;
        }
        if (now.fault != 0) {
            return NONE;
        }
        now.memory.spec.copyFrom(reader.told);
        now.memory.clear();
        past.forget();
        settle();
        return wiring.mux;
    }

    public int fault(int what) {
        switch (what) {
            case 0: return now.fault;
            case 1: return now.faultPlace;
            default: return NONE;
        }
    }

    public int set(int what, int v) {
        if (!canBe(what, v)) {
            return refuse(CANT_BE);
        }
        Spec spec = now.memory.spec;
        if (spec.numbers[what] == v) {
            return refuse(SO_ALREADY);
        }
        trial.copyFrom(spec);
        trial.numbers[what] = v;
        int cause = unfit(trial);
        if (cause != 0) {
            return refuseUnfit(cause);
        }
        past.remember(now.memory);
        int muxBefore = wiring.mux;
        spec.numbers[what] = v;
        settle();
        if (isLayout(what) || wiring.mux != muxBefore) {
            now.memory.clear();
        }
        return accept();
    }

    public int bad(int row, int column, int bit) {
        if (!canBeCell(row, column) || bit < 0 || bit > 1) {
            return refuse(CANT_BE);
        }
        Spec spec = now.memory.spec;
        if (spec.find(row, column) != NONE) {
            return refuse(SO_ALREADY);
        }
        if (spec.bads >= MOST_BAD) {
            return refuse(TWELVE);
        }
        if (row >= wiring.rows || column >= wiring.columns) {
            return refuseUnfit(LIES_OUTSIDE);
        }
        past.remember(now.memory);
        spec.add(row, column, bit);
        settle();
        return accept();
    }

    public int heal(int row, int column) {
        if (!canBeCell(row, column)) {
            return refuse(CANT_BE);
        }
        Spec spec = now.memory.spec;
        int k = spec.find(row, column);
        if (k == NONE) {
            return refuse(SO_ALREADY);
        }
        past.remember(now.memory);
        spec.remove(k);
        settle();
        return accept();
    }

    public int write(int address, int value) {
        if (!isAddress(address)) {
            return refuse(CANT_BE);
        }
        past.remember(now.memory);
        wiring.putWord(now.memory, address, value);
        return accept();
    }

    public int why(int level) {
        switch (level) {
            case 0: return now.reason;
            case 1: return now.cause;
            case 2: return now.root;
            default: return NONE;
        }
    }

    public int undo() {
        if (!past.restore(now.memory)) {
            return NONE;
        }
        settle();
        return past.kept;
    }

    public int count(int what) {
        Spec spec = now.memory.spec;
        if (what >= 0 && what < NUMBERS) {
            return spec.numbers[what];
        }
        switch (what) {
            case 9: return spec.bads;
            case 10: return wiring.mux;
            case 11: return wiring.repair.mended ? 1 : 0;
            case 12: return wiring.repair.rowCount;
            case 13: return wiring.repair.columnCount;
            case 14: return wiring.ones(now.memory);
            case 15: return past.kept;
            case 16: return now.tape.length;
            case 17: return wiring.wrong(spec, 0) + wiring.wrong(spec, 1);
            default: return NONE;
        }
    }

    public int shape(int mux, int what) {
        int[] numbers = now.memory.spec.numbers;
        return form.make(numbers, numbers[WORDS], mux) ? form.tell(what) : NONE;
    }

    public int wished(int wish) {
        if (wish < 0 || wish >= WISHES) {
            return NONE;
        }
        return form.choose(now.memory.spec.numbers, wish);
    }

    public int given(int k, boolean column) {
        Repair repair = wiring.repair;
        if (k < 0 || k >= (column ? repair.columnCount : repair.rowCount)) {
            return NONE;
        }
        return column ? repair.columns[k] : repair.rows[k];
    }

    public int cell(int k, int what) {
        Spec spec = now.memory.spec;
        if (k < 0 || k >= spec.bads) {
            return NONE;
        }
        switch (what) {
            case 0: return spec.badRows[k];
            case 1: return spec.badColumns[k];
            case 2: return spec.badBits[k];
            // all BAD cells are in something GIVEN UP, or nothing is GIVEN UP
            case 3: return wiring.repair.mended ? 1 : 0;
            default: return NONE;
        }
    }

    public int place(int address, int bit, int what) {
        Spec spec = now.memory.spec;
        if (!isAddress(address) || bit < 0 || bit >= spec.numbers[BITS]) {
            return NONE;
        }
        int row = wiring.rowOf(address);
        int column = wiring.columnOf(address, bit);
        switch (what) {
            case 0: return wiring.rowPlace(row);
            case 1: return wiring.columnPlace(column);
            case 2: return (wiring.word(now.memory, address) >>> bit) & 1;
            case 3: return !wiring.repair.mended && spec.find(row, column) != NONE ? 1 : 0;
            default: return NONE;
        }
    }

    public int read(int address) {
        return isAddress(address) ? wiring.word(now.memory, address) : 0;
    }

    public int test(boolean ones) {
        return wiring.wrong(now.memory.spec, ones ? 1 : 0);
    }

    public int view(int view, int i) {
        if (view == 0) {
            text.tellSpec(now.memory.spec);
        } else if (view == 1) {
            tellMade();
        } else {
            return NONE;
        }
        if (i == NONE) {
            return text.length;
        }
        return i < 0 || i >= text.length ? NONE : text.bytes[i];
    }

    public int agree() {
        tellMade();
        int shorter = Math.min(now.tape.length, text.length);
        int at = 0;
        while (at < shorter && now.tape.bytes[at] == text.bytes[at]) {
            at++;
        }
        boolean alike = at == now.tape.length && at == text.length;
        now.tape.length = 0;
        return alike ? NONE : at;
    }

    public int most(int width, int height) {
        int[] numbers = now.memory.spec.numbers;
        for (int words = MOST_WORDS; words >= LEAST_WORDS; words /= 2) {
            for (int fold = 0; fold <= MOST_FOLD; fold++) {
                if (form.make(numbers, words, 1 << fold) && form.width <= width && form.height <= height) {
                    return words;
                }
            }
        }
        return NONE;
    }

    public int fewest() {
        int rows = wiring.repair.fewestRows;
        return rows <= MOST_SPARE_ROWS ? rows : NONE;
    }

    public boolean image(int k) {
        if (k < 0 || k >= IMAGES) {
            return false;
        }
        if (images[k] == null) {
            images[k] = new State();
        }
        images[k].copyFrom(now);
        return true;
    }

    public boolean again(int k) {
        if (k < 0 || k >= IMAGES || images[k] == null) {
            return false;
        }
        now.copyFrom(images[k]);
        past.forget();
        settle();
        return true;
    }

    private void settle() {
        Spec spec = now.memory.spec;
        wiring.lay(spec, form.muxOf(spec.numbers));
    }

    private void tellMade() {
        int[] numbers = now.memory.spec.numbers;
        form.make(numbers, numbers[WORDS], wiring.mux);
        text.tellMade(form, wiring.repair);
    }

    private int accept() {
        now.reason = 0;
        now.cause = 0;
        now.root = 0;
        return 0;
    }

    private int refuse(int reason) {
        accept();
        now.reason = reason;
        return reason;
    }

    private int refuseUnfit(int deepest) {
        accept();
        now.reason = NOT_FIT;
        if (deepest == LIES_OUTSIDE) {
            now.cause = LIES_OUTSIDE;
        } else {
            now.cause = NOT_POSSIBLE;
            now.root = deepest;
        }
        return NOT_FIT;
    }

    /** The deepest reason why a SPEC would not be FIT; 0 if it would be. */
    private int unfit(Spec spec) {
        int mux = form.muxOf(spec.numbers);
        int fold = log(mux);
        int rows = spec.numbers[WORDS] >> fold;
        if (rows < LEAST_ROWS) {
            return TOO_FEW_ROWS;
        }
        if (rows > MOST_ROWS) {
            return TOO_MANY_ROWS;
        }
        return spec.liesIn(rows, spec.numbers[BITS] << fold) ? 0 : LIES_OUTSIDE;
    }

    private boolean isAddress(int address) {
        return address >= 0 && address < now.memory.spec.numbers[WORDS];
    }

    /** Those numbers by which CELLS come to lie elsewhere, whichever mux IS. */
    private static boolean isLayout(int what) {
        return what == WORDS || what == BITS || what == SPARE_ROWS || what == SPARE_COLUMNS;
    }

    private static boolean canBe(int what, int v) {
        if (what < 0 || what >= NUMBERS || v < LEAST[what] || v > GREATEST[what]) {
            return false;
        }
        boolean ofPowers = what == WORDS || what == MUX;
        return !ofPowers || (v & (v - 1)) == 0;
    }

    private static boolean canBeCell(int row, int column) {
        return row >= 0 && row < MOST_ROWS && column >= 0 && column < MOST_COLUMNS;
    }

    private static int log(int power) {
        return Integer.bitCount(power - 1);
    }

    private static int upward(int number, int divisor) {
        return divisor < 1 ? 0 : (number + divisor - 1) / divisor;
    }

    /** Puts v into the first n of a rising row, unless it is there: how many there are then. */
    private static int putRising(int[] row, int n, int v) {
        int at = 0;
        while (at < n && row[at] < v) {
            at++;
        }
        if (n >= row.length || (at < n && row[at] == v)) {
            return n;
        }
        for (int i = n; i > at; i--) {
            row[i] = row[i - 1];
        }
        row[at] = v;
        return n + 1;
    }

    private static String lineWord(int line) {
        switch (line) {
            case 0: return "words";
            case 1: return "bits";
            case 2: return "mux";
            case 3: return "spare";
            case 4: return "cell";
            case 5: return "margin";
            case 6: return "wish";
            default: return "bad";
        }
    }

    private static String wishWord(int wish) {
        switch (wish) {
            case 0: return "area";
            case 1: return "time";
            default: return "square";
        }
    }

    private static final class Spec {
        final int[] numbers = new int[NUMBERS];
        final int[] badRows = new int[MOST_BAD];
        final int[] badColumns = new int[MOST_BAD];
        final int[] badBits = new int[MOST_BAD];
        int bads;

        Spec() {
            toFirst();
        }

        private void toFirst() {
            System.arraycopy(AT_FIRST, 0, numbers, 0, NUMBERS);
            bads = 0;
        }

        private void copyFrom(Spec other) {
            System.arraycopy(other.numbers, 0, numbers, 0, NUMBERS);
            System.arraycopy(other.badRows, 0, badRows, 0, MOST_BAD);
            System.arraycopy(other.badColumns, 0, badColumns, 0, MOST_BAD);
            System.arraycopy(other.badBits, 0, badBits, 0, MOST_BAD);
            bads = other.bads;
        }

        int find(int row, int column) {
            for (int k = 0; k < bads; k++) {
                if (badRows[k] == row && badColumns[k] == column) {
                    return k;
                }
            }
            return NONE;
        }

        void add(int row, int column, int bit) {
            if (bads < MOST_BAD) {
                badRows[bads] = row;
                badColumns[bads] = column;
                badBits[bads] = bit;
                bads++;
            }
        }

        void remove(int k) {
            for (int i = k; i >= 0 && i + 1 < bads; i++) {
                badRows[i] = badRows[i + 1];
                badColumns[i] = badColumns[i + 1];
                badBits[i] = badBits[i + 1];
            }
            bads = Math.max(bads - 1, 0);
        }

        boolean liesIn(int rows, int columns) {
            for (int k = 0; k < bads; k++) {
                if (badRows[k] >= rows || badColumns[k] >= columns) {
                    return false;
                }
            }
            return true;
        }
    }

    /** What a SPEC would be by one mux; one object serves for all of them, one after another. */
    private static final class Shape {
        final int[] sizes = new int[MOST_STAGES];
        int rows;
        int columns;
        int allRows;
        int allColumns;
        int lines;
        int fold;
        int firstInputs;
        int lastInputs;
        int stages;
        int tenths;
        int delay;
        int width;
        int height;
        int wire;
        int fall;
        int sense;
        int pulls;

        /** False, if the mux is none or not POSSIBLE: then what stands here is of no use. */
        boolean make(int[] numbers, int words, int mux) {
            if (mux == 0 || !canBe(MUX, mux)) {
                return false;
            }
            fold = log(mux);
            rows = words >> fold;
            if (rows < LEAST_ROWS || rows > MOST_ROWS) {
                return false;
            }
            lines = log(rows);
            columns = numbers[BITS] * mux;
            allRows = rows + numbers[SPARE_ROWS] + 1;
            allColumns = columns + numbers[SPARE_COLUMNS] + 1;
            chooseStages();
            sizeStages();
            width = allColumns * numbers[WIDE] + 12 * lines + sizes[stages - 1];
            height = allRows * numbers[HIGH] + 30 + 8 * fold;
            wire = allColumns * allColumns / 20;
            fall = 3 * allRows;
            sense = 20 + 5 * fold;
            pulls = mostPulls(numbers[MARGIN]);
            return true;
        }

        private void chooseStages() {
            firstInputs = lines >= 5 ? 3 : 2;
            lastInputs = upward(lines, firstInputs);
            stages = 2;
            tenths = leastTenths(2);
            delay = delayOf(2, tenths);
            for (int n = 4; n <= MOST_STAGES; n += 2) {
                int t = leastTenths(n);
                if (delayOf(n, t) < delay) {
                    stages = n;
                    tenths = t;
                    delay = delayOf(n, t);
                }
            }
        }

        private int delayOf(int n, int t) {
            return n * t + 10 * (firstInputs + lastInputs + n - 2);
        }

        /** PATH is not rounded: both sides are multiplied by 18 and by 10 to the n instead. */
        private int leastTenths(int n) {
            long goal = (firstInputs + 2L) * (lastInputs + 2) * rows * allColumns;
            for (int i = 0; i < n; i++) {
                goal *= 10;
            }
            int below = 0;
            for (int step = 2048; step > 0; step /= 2) {
                // stops at the goal, as the whole power of a large t is more than a long holds
                long power = 18;
                for (int i = 0; i < n && power < goal; i++) {
                    power *= below + step;
                }
                below = power < goal ? below + step : below;
            }
            return below + 1;
        }

        private void sizeStages() {
            int drives = allColumns;
            for (int i = stages - 1; i >= 0; i--) {
                int inputs = 1;
                if (i == stages - 1) {
                    inputs = lastInputs;
                } else if (i == 0) {
                    inputs = firstInputs;
                    drives = upward(drives * rows, 1 << firstInputs);
                }
                sizes[i] = upward(drives * (inputs + 2) * 10, 3 * tenths);
                drives = sizes[i];
            }
        }

        private int mostPulls(int margin) {
            for (int k = MOST_PULLS; k > 1; k--) {
                if ((40 + 30 * allRows / k) * 100 >= fall * (100 + margin)) {
                    return k;
                }
            }
            return 1;
        }

        int area() {
            return width * height;
        }

        int readTime() {
            return delay + wire + fall + sense;
        }

        int cycle() {
            int pulled = pulls < 1 ? 0 : 30 * allRows / pulls;
            return delay + wire + sense + 40 + pulled;
        }

        int tell(int what) {
            switch (what) {
                case 0: return rows;
                case 1: return columns;
                case 2: return width;
                case 3: return height;
                case 4: return area();
                case 5: return readTime();
                case 6: return cycle();
                case 7: return stages;
                case 8: return tenths;
                case 9: return delay;
                case 10: return pulls;
                case 11: return wire;
                case 12: return fall;
                default: return what >= 20 && what < 20 + stages ? sizes[what - 20] : NONE;
            }
        }

        private int cost(int wish) {
            switch (wish) {
                case 0: return area();
                case 1: return cycle();
                default: return Math.abs(width - height);
            }
        }

        int choose(int[] numbers, int wish) {
            int best = NONE;
            int least = 0;
            for (int i = 0; i <= MOST_FOLD; i++) {
                if (make(numbers, numbers[WORDS], 1 << i) && (best == NONE || cost(wish) < least)) {
                    best = 1 << i;
                    least = cost(wish);
                }
            }
            return best;
        }

        /** The mux that IS. */
        int muxOf(int[] numbers) {
            return numbers[MUX] == 0 ? choose(numbers, numbers[WISH]) : numbers[MUX];
        }
    }

    /** Which ROWS and COLUMNS are GIVEN UP. */
    private static final class Repair {
        final int[] rows = new int[MOST_SPARE_ROWS];
        final int[] columns = new int[MOST_SPARE_COLUMNS];
        int rowCount;
        int columnCount;
        boolean mended;
        int fewestRows;
        private final int[] candidates = new int[MOST_BAD];
        private final int[] left = new int[MOST_BAD];
        private int leftCount;

        /**
         * By the COLUMNS that are GIVEN UP the ROWS are settled: each that still has a BAD cell, and
         * no other one. So only COLUMNS with BAD cells are tried, fewer and lesser ones first.
         */
        void find(Spec spec) {
            mended = false;
            rowCount = 0;
            columnCount = 0;
            fewestRows = MOST_BAD;
            int spare = spec.numbers[SPARE_COLUMNS];
            int n = 0;
            for (int k = 0; k < spec.bads; k++) {
                n = putRising(candidates, n, spec.badColumns[k]);
            }
            offer(spec, NONE, NONE);
            for (int i = 0; i < n && spare > 0; i++) {
                offer(spec, candidates[i], NONE);
                for (int j = i + 1; j < n && spare > 1; j++) {
                    offer(spec, candidates[i], candidates[j]);
                }
            }
        }

        private void offer(Spec spec, int first, int second) {
            leftCount = 0;
            for (int k = 0; k < spec.bads; k++) {
                int column = spec.badColumns[k];
                if (column != first && column != second) {
                    leftCount = putRising(left, leftCount, spec.badRows[k]);
                }
            }
            fewestRows = Math.min(fewestRows, leftCount);
            int taken = (first == NONE ? 0 : 1) + (second == NONE ? 0 : 1);
            boolean enough = leftCount <= spec.numbers[SPARE_ROWS] && leftCount <= MOST_SPARE_ROWS;
            if (enough && (!mended || isBetter(taken))) {
                mended = true;
                rowCount = leftCount;
                System.arraycopy(left, 0, rows, 0, leftCount);
                columnCount = taken;
                columns[0] = first;
                columns[1] = second;
            }
        }

        /** Of alike ones the first that was offered stays: it has the least COLUMNS. */
        private boolean isBetter(int taken) {
            int more = leftCount + taken - rowCount - columnCount;
            if (more != 0) {
                return more < 0;
            }
            if (taken != columnCount) {
                return taken < columnCount;
            }
            for (int i = 0; i < leftCount && i < rowCount; i++) {
                if (left[i] != rows[i]) {
                    return left[i] < rows[i];
                }
            }
            return false;
        }
    }

    /** A SPEC and what was written, by PLACES: that which an ACT changes and undo() brings back. */
    private static final class Memory {
        static final int MOST_WORD_PLACES = MOST_WORDS + MOST_SPARE_ROWS * 8;
        static final int SPARE_INTS = 33;

        final Spec spec = new Spec();
        /** The bits of a row's place with one remainder by the mux: those that one address has there. */
        private final int[] words = new int[MOST_WORD_PLACES];
        /** Two bits for each row's place: those in spare COLUMNS. */
        private final int[] spares = new int[SPARE_INTS];

        void clear() {
            Arrays.fill(words, 0);
            Arrays.fill(spares, 0);
        }

        private void copyFrom(Memory other) {
            spec.copyFrom(other.spec);
            System.arraycopy(other.words, 0, words, 0, MOST_WORD_PLACES);
            System.arraycopy(other.spares, 0, spares, 0, SPARE_INTS);
        }

        int wordIn(int i) {
            return i >= 0 && i < MOST_WORD_PLACES ? words[i] : 0;
        }

        void putWordIn(int i, int word) {
            if (i >= 0 && i < MOST_WORD_PLACES) {
                words[i] = word;
            }
        }

        int spareBit(int rowPlace, int i) {
            int at = rowPlace * MOST_SPARE_COLUMNS + i;
            return at >= 0 && at >> 5 < SPARE_INTS ? (spares[at >> 5] >>> (at & 31)) & 1 : 0;
        }

        void putSpareBit(int rowPlace, int i, int bit) {
            int at = rowPlace * MOST_SPARE_COLUMNS + i;
            if (at >= 0 && at >> 5 < SPARE_INTS) {
                spares[at >> 5] = withBit(spares[at >> 5], at & 31, bit);
            }
        }

        static int withBit(int word, int at, int bit) {
            return (word & ~(1 << at)) | (bit << at);
        }
    }

    /** How CELLS come to PLACES, by the mux that IS and what is GIVEN UP. */
    private static final class Wiring {
        final Repair repair = new Repair();
        int mux;
        int fold;
        int rows;
        int columns;

        void lay(Spec spec, int muxThatIs) {
            mux = muxThatIs;
            fold = log(mux);
            rows = spec.numbers[WORDS] >> fold;
            columns = spec.numbers[BITS] << fold;
            repair.find(spec);
        }

        int rowOf(int address) {
            return address >> fold;
        }

        int columnOf(int address, int bit) {
            return (bit << fold) + offset(address);
        }

        /** The remainder by the mux, of an address or a COLUMN. */
        private int offset(int number) {
            return number & (mux - 1);
        }

        int rowPlace(int row) {
            for (int i = 0; i < repair.rowCount; i++) {
                if (repair.rows[i] == row) {
                    return rows + i;
                }
            }
            return row;
        }

        int columnPlace(int column) {
            for (int i = 0; i < repair.columnCount; i++) {
                if (repair.columns[i] == column) {
                    return columns + i;
                }
            }
            return column;
        }

        int word(Memory memory, int address) {
            int rowPlace = rowPlace(rowOf(address));
            int word = memory.wordIn((rowPlace << fold) + offset(address));
            for (int i = 0; i < repair.columnCount; i++) {
                int column = repair.columns[i];
                if (offset(column) == offset(address)) {
                    word = Memory.withBit(word, column >> fold, memory.spareBit(rowPlace, i));
                }
            }
            // a MENDED memory has no BAD cell that is read
            return repair.mended ? word : withStuck(memory.spec, address, word);
        }

        private int withStuck(Spec spec, int address, int word) {
            int told = word;
            for (int k = 0; k < spec.bads; k++) {
                int column = spec.badColumns[k];
                if (spec.badRows[k] == rowOf(address) && offset(column) == offset(address)) {
                    told = Memory.withBit(told, column >> fold, spec.badBits[k]);
                }
            }
            return told;
        }

        void putWord(Memory memory, int address, int value) {
            int bits = memory.spec.numbers[BITS];
            int rowPlace = rowPlace(rowOf(address));
            int written = bits >= 32 ? -1 : (1 << bits) - 1;
            for (int i = 0; i < repair.columnCount; i++) {
                int column = repair.columns[i];
                int bit = column >> fold;
                if (offset(column) == offset(address)) {
                    memory.putSpareBit(rowPlace, i, (value >>> bit) & 1);
                    // what stands in the place that was GIVEN UP may be read again after heal()
                    written = Memory.withBit(written, bit, 0);
                }
            }
            int at = (rowPlace << fold) + offset(address);
            memory.putWordIn(at, (memory.wordIn(at) & ~written) | (value & written));
        }

        int ones(Memory memory) {
            int sum = 0;
            int words = memory.spec.numbers[WORDS];
            for (int address = 0; address < words; address++) {
                sum += Integer.bitCount(word(memory, address));
            }
            return sum;
        }

        /** CELLS that tell another bit than one that is written: none but BAD ones that are read. */
        int wrong(Spec spec, int bit) {
            int sum = 0;
            for (int k = 0; k < spec.bads && !repair.mended; k++) {
                if (spec.badBits[k] != bit) {
                    sum++;
                }
            }
            return sum;
        }
    }

    private static final class Tape {
        final byte[] bytes = new byte[TAPE_BYTES];
        int length;

        boolean hasRoom(int more) {
            return length + more <= TAPE_BYTES;
        }

        void append(int number) {
            for (int shift = 24; shift >= 0 && hasRoom(1); shift -= 8) {
                bytes[length] = (byte) (number >> shift);
                length++;
            }
        }

        private void copyFrom(Tape other) {
            System.arraycopy(other.bytes, 0, bytes, 0, TAPE_BYTES);
            length = other.length;
        }
    }

    /** All that an image has. */
    private static final class State {
        final Memory memory = new Memory();
        final Tape tape = new Tape();
        int fault;
        int faultPlace = NONE;
        int reason;
        int cause;
        int root;

        private void copyFrom(State other) {
            memory.copyFrom(other.memory);
            tape.copyFrom(other.tape);
            fault = other.fault;
            faultPlace = other.faultPlace;
            reason = other.reason;
            cause = other.cause;
            root = other.root;
        }
    }

    /** What was ahead of the latest ACTS, in a ring whose places are made once and used again. */
    private static final class Past {
        private final Memory[] ring = new Memory[MOST_UNDONE];
        private int next;
        int kept;

        void remember(Memory memory) {
            if (ring[next] == null) {
                ring[next] = new Memory();
            }
            ring[next].copyFrom(memory);
            next = (next + 1) % MOST_UNDONE;
            kept = Math.min(kept + 1, MOST_UNDONE);
        }

        boolean restore(Memory memory) {
            int latest = (next + MOST_UNDONE - 1) % MOST_UNDONE;
            if (kept == 0 || ring[latest] == null) {
                return false;
            }
            memory.copyFrom(ring[latest]);
            next = latest;
            kept--;
            return true;
        }

        void forget() {
            kept = 0;
        }
    }

    /** Takes a tape as a TEXT: what it tells, or its first FAULT of 1 to 4. */
    private static final class Reader {
        private static final int END = 0;
        private static final int WORD = 1;
        private static final int NUMBER = 2;
        private static final int SEMICOLON = 3;
        private static final int WRONG = 4;

        final Spec told = new Spec();
        int fault;
        int faultPlace;
        private final Tape source = new Tape();
        private int kind;
        private int from;
        private int to;
        private int number;

        void take(Tape tape) {
            source.copyFrom(tape);
            told.toFirst();
            fault = 0;
            faultPlace = NONE;
            to = 0;
            next();
            boolean goesOn = true;
            // a LINE takes some bytes, so there are no more of them than bytes
            for (int i = 0; i <= TAPE_BYTES && goesOn && kind != END; i++) {
                goesOn = takeLine();
            }
            if (!goesOn) {
                fault = NO_TEXT;
                faultPlace = from;
            }
        }

        /** False, if no text goes on with the token that is the latest then. */
        private boolean takeLine() {
            int line = kind == WORD ? lineTold() : NONE;
            if (line == NONE) {
                return false;
            }
            boolean goesOn;
            if (line == WISH_LINE) {
                goesOn = takeWish();
            } else if (line == BAD_LINE) {
                goesOn = takeBad();
            } else {
                goesOn = takeNumbers(line);
            }
            if (!goesOn || kind != SEMICOLON) {
                return false;
            }
            next();
            return true;
        }

        private boolean takeNumbers(int line) {
            next();
            for (int i = 0; i < LINE_NUMBERS[line]; i++) {
                if (kind != NUMBER) {
                    return false;
                }
                int what = LINE_TELLS[line] + i;
                if (canBe(what, number)) {
                    told.numbers[what] = number;
                } else {
                    note(WRONG_NUMBER, from);
                }
                next();
            }
            return true;
        }

        private boolean takeWish() {
            next();
            int wish = kind == WORD ? wishTold() : NONE;
            if (wish == NONE) {
                return false;
            }
            told.numbers[WISH] = wish;
            next();
            return true;
        }

        private boolean takeBad() {
            if (told.bads >= MOST_BAD) {
                note(THIRTEENTH, from);
            }
            next();
            if (kind != NUMBER) {
                return false;
            }
            int row = number;
            int rowFrom = from;
            next();
            if (kind != NUMBER) {
                return false;
            }
            int column = number;
            int columnFrom = from;
            next();
            if (kind != NUMBER) {
                return false;
            }
            noteBad(row, rowFrom, column, columnFrom);
            if (fault == 0) {
                told.add(row, column, number);
            }
            next();
            return true;
        }

        /** In the order of places, though only behind the COLUMN is it known what is told twice. */
        private void noteBad(int row, int rowFrom, int column, int columnFrom) {
            if (row >= MOST_ROWS) {
                note(WRONG_NUMBER, rowFrom);
            }
            if (told.find(row, column) != NONE) {
                note(TOLD_TWICE, rowFrom);
            }
            if (column >= MOST_COLUMNS) {
                note(WRONG_NUMBER, columnFrom);
            }
            if (number > 1) {
                note(WRONG_NUMBER, from);
            }
        }

        /** The first one stays, as they come by place. */
        private void note(int found, int at) {
            if (fault == 0) {
                fault = found;
                faultPlace = at;
            }
        }

        private void next() {
            from = to;
            while (from < source.length && isBlank(source.bytes[from])) {
                from++;
            }
            to = from;
            if (from >= source.length) {
                kind = END;
            } else if (isLetter(source.bytes[from])) {
                takeLetters();
            } else if (isDigit(source.bytes[from])) {
                takeDigits();
            } else {
                kind = source.bytes[from] == ';' ? SEMICOLON : WRONG;
                to = from + 1;
            }
        }

        private void takeLetters() {
            while (to < source.length && isLetter(source.bytes[to])) {
                to++;
            }
            kind = to - from > 8 ? WRONG : WORD;
        }

        private void takeDigits() {
            number = 0;
            while (to < source.length && isDigit(source.bytes[to])) {
                number = to - from < 6 ? number * 10 + source.bytes[to] - '0' : number;
                to++;
            }
            kind = to - from > 6 ? WRONG : NUMBER;
        }

        private int lineTold() {
            for (int line = 0; line < LINES; line++) {
                if (isTold(lineWord(line))) {
                    return line;
                }
            }
            return NONE;
        }

        private int wishTold() {
            for (int wish = 0; wish < WISHES; wish++) {
                if (isTold(wishWord(wish))) {
                    return wish;
                }
            }
            return NONE;
        }

        private boolean isTold(String word) {
            if (word.length() != to - from || to > source.length) {
                return false;
            }
            for (int i = 0; i < word.length(); i++) {
                if (word.charAt(i) != source.bytes[from + i]) {
                    return false;
                }
            }
            return true;
        }

        private static boolean isBlank(int sign) {
            return sign == 32 || sign == 10;
        }

        private static boolean isLetter(int sign) {
            return sign >= 'a' && sign <= 'z';
        }

        private static boolean isDigit(int sign) {
            return sign >= '0' && sign <= '9';
        }
    }

    /** The bytes of a VIEW, in one row that each VIEW uses again. */
    private static final class Text {
        /** The longest VIEW 0 has 12 BAD cells and some 240 bytes, VIEW 1 has fewer. */
        static final int MOST_BYTES = 400;

        final byte[] bytes = new byte[MOST_BYTES];
        int length;

        void tellSpec(Spec spec) {
            length = 0;
            for (int line = 0; line < BAD_LINE; line++) {
                putSigns(lineWord(line));
                for (int i = 0; i < LINE_NUMBERS[line]; i++) {
                    putNumber(spec.numbers[LINE_TELLS[line] + i]);
                }
                if (line == WISH_LINE) {
                    putSign(' ');
                    putSigns(wishWord(spec.numbers[WISH]));
                }
                putSign(';');
            }
            for (int k = 0; k < spec.bads; k++) {
                putSigns(lineWord(BAD_LINE));
                putNumber(spec.badRows[k]);
                putNumber(spec.badColumns[k]);
                putNumber(spec.badBits[k]);
                putSign(';');
            }
        }

        void tellMade(Shape form, Repair repair) {
            length = 0;
            putPair("size", form.width, form.height);
            putPair("time", form.readTime(), form.cycle());
            putPair("rows", form.rows, repair.rowCount);
            putPair("columns", form.columns, repair.columnCount);
            putSigns("stages");
            putNumber(form.stages);
            for (int i = 0; i < form.stages && i < MOST_STAGES; i++) {
                putNumber(form.sizes[i]);
            }
            putSign(';');
        }

        private void putPair(String word, int first, int second) {
            putSigns(word);
            putNumber(first);
            putNumber(second);
            putSign(';');
        }

        /** A blank and a number of at most nine digits, 0 or more. */
        private void putNumber(int number) {
            putSign(' ');
            for (int unit = 100000000; unit > 0; unit /= 10) {
                if (unit == 1 || number >= unit) {
                    putSign((char) ('0' + number / unit % 10));
                }
            }
        }

        private void putSigns(String word) {
            for (int i = 0; i < word.length(); i++) {
                putSign(word.charAt(i));
            }
        }

        private void putSign(char sign) {
            if (length < MOST_BYTES) {
                bytes[length] = (byte) sign;
                length++;
            }
        }
    }
}
