/** Puts a text on the tape of a maker, and takes a view from it. */
final class Tapes {
    private Tapes() {
    }

    /** The numbers that feed() wants for twenty bytes of a text, blanks behind its end. */
    static int[] numbers(String text, int from) {
        int[] five = new int[5];
        for (int i = 0; i < 20; i++) {
            int sign = from + i < text.length() ? text.charAt(from + i) & 255 : 32;
            five[i / 4] = five[i / 4] << 8 | sign;
        }
        return five;
    }

    /** False, if the tape did not take it. */
    static boolean put(MemoryMaker x, String text) {
        int before = x.count(16);
        for (int i = 0; i < text.length(); i += 20) {
            int[] f = numbers(text, i);
            if (x.feed(f[0], f[1], f[2], f[3], f[4]) == MemoryMaker.NONE) {
                return false;
            }
        }
        return x.end(before + text.length()) == before + text.length();
    }

    static int spec(MemoryMaker x, String text) {
        x.end(0);
        return put(x, text) ? x.spec() : -99;
    }

    /** A new maker with a SPEC that is told; the text must be without a FAULT. */
    static MemoryMaker told(String text) {
        MemoryMaker x = new MemoryMaker();
        if (spec(x, text) < 0) {
            throw new IllegalArgumentException("fault " + x.fault(0) + " at " + x.fault(1) + " of " + text);
        }
        return x;
    }

    static String view(MemoryMaker x, int view) {
        StringBuilder all = new StringBuilder();
        int n = x.view(view, -1);
        for (int i = 0; i < n; i++) {
            all.append((char) x.view(view, i));
        }
        return all.toString();
    }
}
