import java.util.Random;

/** Draws TEXTS: most of them right, some with a fault anywhere. */
final class Texts {
    private final Random draw;
    private final StringBuilder all = new StringBuilder();

    Texts(Random draw) {
        this.draw = draw;
    }

    String draw() {
        int lines = draw.nextInt(6);
        for (int i = 0; i < lines; i++) {
            line();
        }
        int bads = draw.nextInt(6) == 0 ? 11 + draw.nextInt(4) : draw.nextInt(4);
        for (int i = 0; i < bads; i++) {
            bad(i);
        }
        spoil();
        return all.length() > 300 ? all.substring(0, 300) : all.toString();
    }

    private void blank() {
        switch (draw.nextInt(8)) {
            case 0: all.append("\n"); break;
            case 1: all.append(" \n "); break;
            default: all.append(' '); break;
        }
    }

    private void line() {
        switch (draw.nextInt(8)) {
            case 0: put("words", 16 << draw.nextInt(7), 5000); break;
            case 1: put("bits", 1 + draw.nextInt(32), 33); break;
            case 2: put("mux", new int[] {0, 1, 2, 4, 8}[draw.nextInt(5)], 5); break;
            case 3: put("spare", draw.nextInt(5), 5); more(draw.nextInt(3), 3); break;
            case 4: put("cell", 1 + draw.nextInt(20), 0); more(1 + draw.nextInt(20), 21); break;
            case 5: put("margin", draw.nextInt(101), 101); break;
            case 6: put("wish", -1, 0); all.append(new String[] {"area", "time", "square"}[draw.nextInt(3)]); break;
            default: put("words", 64, 48); break;
        }
        end();
    }

    private void bad(int i) {
        put("bad", i == 0 || draw.nextInt(4) != 0 ? draw.nextInt(16) : draw.nextInt(3), 512);
        more(draw.nextInt(20) == 0 ? draw.nextInt(300) : draw.nextInt(4), 256);
        more(draw.nextInt(2), 2);
        end();
    }

    private void put(String word, int number, int wrong) {
        all.append(word);
        if (draw.nextInt(10) != 0) {
            blank();
        }
        if (number >= 0) {
            number(number, wrong);
        }
    }

    private void more(int number, int wrong) {
        blank();
        number(number, wrong);
    }

    private void number(int number, int wrong) {
        if (draw.nextInt(12) == 0) {
            all.append("0");
        }
        all.append(draw.nextInt(60) == 0 ? wrong : number);
    }

    private void end() {
        if (draw.nextInt(6) == 0) {
            blank();
        }
        all.append(';');
        if (draw.nextInt(6) == 0) {
            blank();
        }
    }

    private void spoil() {
        if (all.length() == 0) {
            return;
        }
        int at = draw.nextInt(all.length());
        switch (draw.nextInt(16)) {
            case 0: all.deleteCharAt(at); break;
            case 1: all.insert(at, (char) draw.nextInt(256)); break;
            case 2: all.insert(at, "1234567"); break;
            case 3: all.insert(at, "abcdefghi"); break;
            case 4: all.setLength(at); break;
            default: break;
        }
    }
}
