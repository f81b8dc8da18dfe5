import java.math.BigInteger;
import java.util.ArrayDeque;
import java.util.ArrayList;
import java.util.Arrays;
import java.util.Deque;
import java.util.HashMap;
import java.util.HashSet;
import java.util.List;
import java.util.Map;
import java.util.Set;
import java.util.TreeSet;

/**
 * The document again, slow and by its words: fractions whole, every set of ROWS and COLUMNS tried,
 * each CELL looked for by itself. It shares no line with MemoryMaker, so that both can be compared.
 */
final class Model {
    static final int NONE = -1;

    record Bad(int row, int column, int bit) {
    }

    record Token(char kind, String text, int from) {
    }

    record Given(List<Integer> rows, List<Integer> columns) {
    }

    record Held(int[] n, List<Bad> bads, Map<Integer, Integer> places) {
    }

    record Picture(Held held, List<Integer> tape, int fault, int faultPlace, int[] why) {
    }

    private int[] n = {64, 8, 0, 1, 0, 2, 3, 20, 0};
    private List<Bad> bads = new ArrayList<>();
    private Map<Integer, Integer> places = new HashMap<>();
    private List<Integer> tape = new ArrayList<>();
    private int fault = 0;
    private int faultPlace = NONE;
    private int[] why = {0, 0, 0};
    private final Deque<Held> past = new ArrayDeque<>();
    private final Picture[] images = new Picture[3];

    // ---- shapes

    static final class Form {
        int m, rows, columns, width, height, area, read, cycle, n, tenths, delay, pulls, wire, fall;
        List<Integer> sizes;
    }

    static int log(int power) {
        int l = 0;
        while (1 << l < power) {
            l++;
        }
        return l;
    }

    static int up(long x, long by) {
        return (int) (x / by + (x % by == 0 ? 0 : 1));
    }

    /** Forms once made, as they take long: they hang on these numbers alone. */
    private static final Map<String, Form> FORMS = new HashMap<>();

    static Form form(int[] n, int m) {
        String key = Arrays.toString(new int[] {m, n[0], n[1], n[3], n[4], n[5], n[6], n[7]});
        if (!FORMS.containsKey(key)) {
            FORMS.put(key, made(n, m));
        }
        return FORMS.get(key);
    }

    private static Form made(int[] n, int m) {
        if (m != 1 && m != 2 && m != 4 && m != 8) {
            return null;
        }
        Form f = new Form();
        f.m = m;
        f.rows = n[0] / m;
        f.columns = n[1] * m;
        if (f.rows < 8 || f.rows > 512) {
            return null;
        }
        int allRows = f.rows + n[3] + 1;
        int allColumns = f.columns + n[4] + 1;
        int lines = log(f.rows);
        int fold = log(m);
        int a = lines >= 5 ? 3 : 2;
        int b = up(lines, a);
        long path18 = (long) (a + 2) * (b + 2) * f.rows * allColumns;
        f.delay = Integer.MAX_VALUE;
        for (int k : new int[] {2, 4, 6, 8}) {
            // from a t on that is surely not enough
            int t = Math.max(1, (int) (10 * Math.pow(path18 / 18.0, 1.0 / k)) - 2);
            while (BigInteger.valueOf(t).pow(k).multiply(BigInteger.valueOf(18))
                    .compareTo(BigInteger.TEN.pow(k).multiply(BigInteger.valueOf(path18))) < 0) {
                t++;
            }
            int d = k * t + 10 * (a + b + k - 2);
            if (d < f.delay) {
                f.delay = d;
                f.n = k;
                f.tenths = t;
            }
        }
        List<Integer> sizes = new ArrayList<>();
        sizes.add(0, up((long) allColumns * (b + 2) * 10, 3L * f.tenths));
        for (int k = 0; k < f.n - 2; k++) {
            sizes.add(0, up(sizes.get(0) * 3L * 10, 3L * f.tenths));
        }
        int drives = up((long) sizes.get(0) * f.rows, 1L << a);
        sizes.add(0, up((long) drives * (a + 2) * 10, 3L * f.tenths));
        f.sizes = sizes;
        f.width = allColumns * n[5] + 12 * lines + sizes.get(sizes.size() - 1);
        f.height = allRows * n[6] + 30 + 8 * fold;
        f.area = f.width * f.height;
        f.wire = allColumns * allColumns / 20;
        f.fall = 3 * allRows;
        int sense = 20 + 5 * fold;
        f.read = f.delay + f.wire + f.fall + sense;
        f.pulls = 1;
        for (int k = 1; k <= 16; k++) {
            if ((40 + 30 * allRows / k) * 100 >= f.fall * (100 + n[7])) {
                f.pulls = k;
            }
        }
        f.cycle = f.delay + f.wire + sense + 40 + 30 * allRows / f.pulls;
        return f;
    }

    static int chosen(int[] n, int wish) {
        int best = NONE;
        int least = Integer.MAX_VALUE;
        for (int m = 8; m >= 1; m /= 2) {
            Form f = form(n, m);
            if (f == null) {
                continue;
            }
            int cost = wish == 0 ? f.area : wish == 1 ? f.cycle : Math.abs(f.width - f.height);
            if (cost <= least) {
                least = cost;
                best = m;
            }
        }
        return best;
    }

    static int is(int[] n) {
        return n[2] != 0 ? n[2] : chosen(n, n[8]);
    }

    // ---- what is given up

    static <T> List<List<T>> sets(List<T> of, int most) {
        List<List<T>> all = new ArrayList<>();
        all.add(new ArrayList<>());
        for (T one : of) {
            for (List<T> smaller : new ArrayList<>(all)) {
                if (smaller.size() < most) {
                    List<T> larger = new ArrayList<>(smaller);
                    larger.add(one);
                    all.add(larger);
                }
            }
        }
        return all;
    }

    static int compare(List<Integer> a, List<Integer> b) {
        for (int i = 0; i < a.size() && i < b.size(); i++) {
            if (!a.get(i).equals(b.get(i))) {
                return a.get(i) - b.get(i);
            }
        }
        return a.size() - b.size();
    }

    static int compare(Given a, Given b) {
        int totals = a.rows.size() + a.columns.size() - b.rows.size() - b.columns.size();
        if (totals != 0) {
            return totals;
        }
        if (a.columns.size() != b.columns.size()) {
            return a.columns.size() - b.columns.size();
        }
        int rows = compare(a.rows, b.rows);
        return rows != 0 ? rows : compare(a.columns, b.columns);
    }

    static Given given(List<Bad> bads, int spareRows, int spareColumns) {
        TreeSet<Integer> rows = new TreeSet<>();
        TreeSet<Integer> columns = new TreeSet<>();
        for (Bad b : bads) {
            rows.add(b.row);
            columns.add(b.column);
        }
        Given best = null;
        for (List<Integer> r : sets(new ArrayList<>(rows), spareRows)) {
            for (List<Integer> c : sets(new ArrayList<>(columns), spareColumns)) {
                boolean all = true;
                for (Bad b : bads) {
                    all = all && (r.contains(b.row) || c.contains(b.column));
                }
                Given g = new Given(r, c);
                if (all && (best == null || compare(g, best) < 0)) {
                    best = g;
                }
            }
        }
        return best;
    }

    private Given given() {
        Given g = given(bads, n[3], n[4]);
        return g == null ? new Given(List.of(), List.of()) : g;
    }

    // ---- cells

    private Bad badAt(int row, int column) {
        for (Bad b : bads) {
            if (b.row == row && b.column == column) {
                return b;
            }
        }
        return null;
    }

    private int[] where(Given g, int m, int address, int bit) {
        int row = address / m;
        int column = bit * m + address % m;
        int r = g.rows.contains(row) ? n[0] / m + g.rows.indexOf(row) : row;
        int c = g.columns.contains(column) ? n[1] * m + g.columns.indexOf(column) : column;
        return new int[] {r, c};
    }

    private int bit(Given g, int m, int address, int bit) {
        int[] w = where(g, m, address, bit);
        Bad b = badAt(w[0], w[1]);
        return b != null ? b.bit : places.getOrDefault(w[0] * 1000 + w[1], 0);
    }

    private void put(Given g, int address, int value) {
        for (int bit = 0; bit < n[1]; bit++) {
            int[] w = where(g, is(n), address, bit);
            places.put(w[0] * 1000 + w[1], value >> bit & 1);
        }
    }

    // ---- the tape

    int feed(int... five) {
        if (tape.size() + 20 > 300) {
            return NONE;
        }
        for (int number : five) {
            for (int k = 3; k >= 0; k--) {
                tape.add(number >>> 8 * k & 255);
            }
        }
        return tape.size();
    }

    int end(int k) {
        if (k < 0 || k > tape.size()) {
            return NONE;
        }
        tape = new ArrayList<>(tape.subList(0, k));
        return k;
    }

    private static List<Token> tokens(String text) {
        List<Token> all = new ArrayList<>();
        int i = 0;
        while (i < text.length()) {
            char c = text.charAt(i);
            int j = i + 1;
            if (c == 32 || c == 10) {
                i++;
                continue;
            }
            if (c >= 'a' && c <= 'z') {
                while (j < text.length() && text.charAt(j) >= 'a' && text.charAt(j) <= 'z') {
                    j++;
                }
                all.add(new Token(j - i > 8 ? '?' : 'w', text.substring(i, j), i));
            } else if (c >= '0' && c <= '9') {
                while (j < text.length() && text.charAt(j) >= '0' && text.charAt(j) <= '9') {
                    j++;
                }
                all.add(new Token(j - i > 6 ? '?' : 'n', text.substring(i, j), i));
            } else {
                all.add(new Token(c == ';' ? ';' : '?', String.valueOf(c), i));
            }
            i = j;
        }
        all.add(new Token('.', "", text.length()));
        return all;
    }

    private static String pattern(String word) {
        switch (word) {
            case "words": case "bits": case "mux": case "margin": return "n;";
            case "spare": case "cell": return "nn;";
            case "bad": return "nnn;";
            case "wish": return "W;";
            default: return null;
        }
    }

    /** The place at which no text goes on, or NONE. */
    private static int noText(List<Token> tokens) {
        String due = "";
        for (Token t : tokens) {
            if (due.isEmpty()) {
                if (t.kind == '.') {
                    return NONE;
                }
                due = t.kind == 'w' ? pattern(t.text) : null;
                if (due == null) {
                    return t.from;
                }
                continue;
            }
            char c = due.charAt(0);
            boolean goes = c == 'W'
                    ? t.kind == 'w' && Set.of("area", "time", "square").contains(t.text) : t.kind == c;
            if (!goes) {
                return t.from;
            }
            due = due.substring(1);
        }
        return NONE;
    }

    static boolean canBe(int what, int v) {
        switch (what) {
            case 0: return v >= 16 && v <= 1024 && Integer.bitCount(v) == 1;
            case 1: return v >= 1 && v <= 32;
            case 2: return v == 0 || v == 1 || v == 2 || v == 4 || v == 8;
            case 3: return v >= 0 && v <= 4;
            case 4: return v >= 0 && v <= 2;
            case 5: case 6: return v >= 1 && v <= 20;
            case 7: return v >= 0 && v <= 100;
            case 8: return v >= 0 && v <= 2;
            default: return false;
        }
    }

    int spec() {
        StringBuilder all = new StringBuilder();
        for (int b : tape) {
            all.append((char) b);
        }
        tape = new ArrayList<>();
        List<Token> t = tokens(all.toString());
        int[] told = {64, 8, 0, 1, 0, 2, 3, 20, 0};
        List<Bad> toldBads = new ArrayList<>();
        // each fault found: its place and number, so that the least of all is the one told
        TreeSet<Integer> found = new TreeSet<>();
        int nowhere = noText(t);
        if (nowhere != NONE) {
            fault = 1;
            faultPlace = nowhere;
            return NONE;
        }
        Set<String> seen = new HashSet<>();
        int bad = 0;
        for (int i = 0; i + 1 < t.size();) {
            String word = t.get(i).text;
            int what = Arrays.asList("words", "bits", "mux", "spare", "", "cell", "", "margin", "wish").indexOf(word);
            if (word.equals("wish")) {
                told[8] = List.of("area", "time", "square").indexOf(t.get(i + 1).text);
                i += 3;
            } else if (word.equals("bad")) {
                int[] v = new int[3];
                int[] most = {511, 255, 1};
                for (int k = 0; k < 3; k++) {
                    v[k] = Integer.parseInt(t.get(i + 1 + k).text);
                    if (v[k] > most[k]) {
                        found.add(t.get(i + 1 + k).from * 8 + 2);
                    }
                }
                if (!seen.add(v[0] + "/" + v[1])) {
                    found.add(t.get(i + 1).from * 8 + 3);
                }
                bad++;
                if (bad == 13) {
                    found.add(t.get(i).from * 8 + 4);
                }
                toldBads.add(new Bad(v[0], v[1], v[2]));
                i += 5;
            } else {
                int k = 1;
                for (; t.get(i + k).kind == 'n'; k++) {
                    int v = Integer.parseInt(t.get(i + k).text);
                    if (canBe(what + k - 1, v)) {
                        told[what + k - 1] = v;
                    } else {
                        found.add(t.get(i + k).from * 8 + 2);
                    }
                }
                i += k + 1;
            }
        }
        if (!found.isEmpty()) {
            fault = found.first() % 8;
            faultPlace = found.first() / 8;
            return NONE;
        }
        faultPlace = NONE;
        if (unfit(told, toldBads)[0] != 0) {
            fault = 5;
            return NONE;
        }
        fault = 0;
        n = told;
        bads = toldBads;
        places = new HashMap<>();
        past.clear();
        return is(n);
    }

    int fault(int what) {
        return what == 0 ? fault : what == 1 ? faultPlace : NONE;
    }

    // ---- acts

    private static int[] unfit(int[] n, List<Bad> bads) {
        int m = is(n);
        if (n[0] / m < 8) {
            return new int[] {4, 5, 7};
        }
        if (n[0] / m > 512) {
            return new int[] {4, 5, 8};
        }
        for (Bad b : bads) {
            if (b.row >= n[0] / m || b.column >= n[1] * m) {
                return new int[] {4, 6, 0};
            }
        }
        return new int[] {0, 0, 0};
    }

    private int refused(int... reasons) {
        why = Arrays.copyOf(reasons, 3);
        return why[0];
    }

    private Held held() {
        return new Held(n.clone(), new ArrayList<>(bads), new HashMap<>(places));
    }

    private void hold(Held h) {
        n = h.n.clone();
        bads = new ArrayList<>(h.bads);
        places = new HashMap<>(h.places);
    }

    private void remember() {
        past.addLast(held());
        if (past.size() > 6) {
            past.removeFirst();
        }
    }

    int set(int what, int v) {
        if (!canBe(what, v)) {
            return refused(1);
        }
        if (n[what] == v) {
            return refused(2);
        }
        int[] next = n.clone();
        next[what] = v;
        int[] reasons = unfit(next, bads);
        if (reasons[0] != 0) {
            return refused(reasons);
        }
        remember();
        boolean stays = n[0] == next[0] && n[1] == next[1] && n[3] == next[3] && n[4] == next[4] && is(n) == is(next);
        n = next;
        if (!stays) {
            places = new HashMap<>();
        }
        return refused(0);
    }

    int bad(int row, int column, int bit) {
        if (row < 0 || row > 511 || column < 0 || column > 255 || bit < 0 || bit > 1) {
            return refused(1);
        }
        if (badAt(row, column) != null) {
            return refused(2);
        }
        if (bads.size() == 12) {
            return refused(3);
        }
        List<Bad> next = new ArrayList<>(bads);
        next.add(new Bad(row, column, bit));
        int[] reasons = unfit(n, next);
        if (reasons[0] != 0) {
            return refused(reasons);
        }
        remember();
        bads = next;
        return refused(0);
    }

    int heal(int row, int column) {
        if (row < 0 || row > 511 || column < 0 || column > 255) {
            return refused(1);
        }
        Bad b = badAt(row, column);
        if (b == null) {
            return refused(2);
        }
        remember();
        bads.remove(b);
        return refused(0);
    }

    int write(int address, int value) {
        if (address < 0 || address >= n[0]) {
            return refused(1);
        }
        remember();
        put(given(), address, value);
        return refused(0);
    }

    int why(int level) {
        return level < 0 || level > 2 ? NONE : why[level];
    }

    int undo() {
        if (past.isEmpty()) {
            return NONE;
        }
        hold(past.removeLast());
        return past.size();
    }

    // ---- what there is

    int count(int what) {
        if (what >= 0 && what < 9) {
            return n[what];
        }
        switch (what) {
            case 9: return bads.size();
            case 10: return is(n);
            case 11: return given(bads, n[3], n[4]) != null ? 1 : 0;
            case 12: return given().rows.size();
            case 13: return given().columns.size();
            case 14: return ones();
            case 15: return past.size();
            case 16: return tape.size();
            case 17: return tests(true, true);
            default: return NONE;
        }
    }

    private int ones() {
        Given g = given();
        int m = is(n);
        int sum = 0;
        for (int address = 0; address < n[0]; address++) {
            for (int bit = 0; bit < n[1]; bit++) {
                sum += bit(g, m, address, bit);
            }
        }
        return sum;
    }

    /** CELLS that one of the asked tests finds, each CELL counted once. */
    private int tests(boolean zeros, boolean ones) {
        Given g = given();
        int m = is(n);
        int sum = 0;
        for (int address = 0; address < n[0]; address++) {
            for (int bit = 0; bit < n[1]; bit++) {
                int[] w = where(g, m, address, bit);
                Bad b = badAt(w[0], w[1]);
                if (b != null && (zeros && b.bit == 1 || ones && b.bit == 0)) {
                    sum++;
                }
            }
        }
        return sum;
    }

    int shape(int mux, int what) {
        Form f = form(n, mux);
        if (f == null || what < 0) {
            return NONE;
        }
        int[] all = {f.rows, f.columns, f.width, f.height, f.area, f.read, f.cycle, f.n, f.tenths, f.delay, f.pulls,
            f.wire, f.fall};
        if (what < all.length) {
            return all[what];
        }
        return what >= 20 && what - 20 < f.sizes.size() ? f.sizes.get(what - 20) : NONE;
    }

    int wished(int wish) {
        return wish < 0 || wish > 2 ? NONE : chosen(n, wish);
    }

    int given(int k, boolean column) {
        List<Integer> all = column ? given().columns : given().rows;
        return k < 0 || k >= all.size() ? NONE : all.get(k);
    }

    int cell(int k, int what) {
        if (k < 0 || k >= bads.size() || what < 0 || what > 3) {
            return NONE;
        }
        Bad b = bads.get(k);
        Given g = given();
        int in = g.rows.contains(b.row) || g.columns.contains(b.column) ? 1 : 0;
        return new int[] {b.row, b.column, b.bit, in}[what];
    }

    int place(int address, int bit, int what) {
        if (address < 0 || address >= n[0] || bit < 0 || bit >= n[1] || what < 0 || what > 3) {
            return NONE;
        }
        Given g = given();
        int[] w = where(g, is(n), address, bit);
        int told = badAt(w[0], w[1]) != null ? 1 : 0;
        return new int[] {w[0], w[1], bit(g, is(n), address, bit), told}[what];
    }

    int read(int address) {
        if (address < 0 || address >= n[0]) {
            return 0;
        }
        Given g = given();
        int word = 0;
        for (int bit = 0; bit < n[1]; bit++) {
            word |= bit(g, is(n), address, bit) << bit;
        }
        return word;
    }

    int test(boolean ones) {
        return tests(!ones, ones);
    }

    private String text(int view) {
        StringBuilder s = new StringBuilder();
        if (view == 0) {
            s.append(String.format("words %d;bits %d;mux %d;spare %d %d;cell %d %d;margin %d;wish %s;", n[0], n[1], n[2],
                    n[3], n[4], n[5], n[6], n[7], List.of("area", "time", "square").get(n[8])));
            for (Bad b : bads) {
                s.append(String.format("bad %d %d %d;", b.row, b.column, b.bit));
            }
            return s.toString();
        }
        Form f = form(n, is(n));
        Given g = given();
        s.append(String.format("size %d %d;time %d %d;rows %d %d;columns %d %d;stages %d", f.width, f.height, f.read,
                f.cycle, f.rows, g.rows.size(), f.columns, g.columns.size(), f.n));
        for (int size : f.sizes) {
            s.append(" ").append(size);
        }
        return s.append(";").toString();
    }

    int view(int view, int i) {
        if (view != 0 && view != 1) {
            return NONE;
        }
        String s = text(view);
        return i == NONE ? s.length() : i < 0 || i >= s.length() ? NONE : s.charAt(i);
    }

    int agree() {
        String s = text(1);
        List<Integer> t = tape;
        tape = new ArrayList<>();
        for (int i = 0; i < s.length() || i < t.size(); i++) {
            if (i >= s.length() || i >= t.size() || s.charAt(i) != t.get(i)) {
                return i;
            }
        }
        return NONE;
    }

    int most(int width, int height) {
        int best = NONE;
        for (int words = 16; words <= 1024; words *= 2) {
            int[] other = n.clone();
            other[0] = words;
            for (int m = 1; m <= 8; m *= 2) {
                Form f = form(other, m);
                if (f != null && f.width <= width && f.height <= height) {
                    best = words;
                }
            }
        }
        return best;
    }

    int fewest() {
        for (int rows = 0; rows <= 4; rows++) {
            if (given(bads, rows, n[4]) != null) {
                return rows;
            }
        }
        return NONE;
    }

    boolean image(int k) {
        if (k < 0 || k > 2) {
            return false;
        }
        images[k] = new Picture(held(), new ArrayList<>(tape), fault, faultPlace, why.clone());
        return true;
    }

    boolean again(int k) {
        if (k < 0 || k > 2 || images[k] == null) {
            return false;
        }
        Picture p = images[k];
        hold(p.held);
        tape = new ArrayList<>(p.tape);
        fault = p.fault;
        faultPlace = p.faultPlace;
        why = p.why.clone();
        past.clear();
        return true;
    }
}
