import java.util.HashMap;
import java.util.LinkedHashMap;
import java.util.Map;

/**
 * Tests that each name a section of the document and the sentence that they are for. A sentence that
 * does not stand there is an error, and so is a word of a section that no test names.
 */
final class Sentences {
    private static final int MOST_TOLD = 40;

    private final Doc doc = Doc.read();
    /** For each section that has to be named wholly: which of its signs were. */
    private final Map<String, boolean[]> named = new LinkedHashMap<>();
    private final Map<String, Integer> checks = new HashMap<>();
    private String now = "";
    private int asked;
    private int wrong;

    Sentences(String... sections) {
        for (String section : sections) {
            named.put(section, new boolean[doc.words(section).length()]);
        }
    }

    /** A test begins: the section and the sentence that it is for. */
    void says(String section, String sentence) {
        now = section + " \"" + sentence + "\"";
        checks.put(now, 0);
        if (!named.containsKey(section)) {
            fail("is in a section that is not of this test");
            return;
        }
        if (!doc.isThere()) {
            return;
        }
        String words = doc.words(section);
        int at = words.indexOf(Doc.flat(sentence));
        if (at < 0) {
            fail("does not stand in the document");
        }
        for (int i = at; at >= 0 && i < at + Doc.flat(sentence).length(); i++) {
            named.get(section)[i] = true;
        }
    }

    void due(String call, long got, long want) {
        count();
        if (got != want) {
            fail(call + " answered " + got + ", due is " + want);
        }
    }

    void due(String call, boolean got, boolean want) {
        due(call, got ? 1 : 0, want ? 1 : 0);
    }

    void due(String call, String got, String want) {
        count();
        if (!got.equals(want)) {
            fail(call + " answered \"" + got + "\", due is \"" + want + "\"");
        }
    }

    private void count() {
        asked++;
        checks.merge(now, 1, Integer::sum);
    }

    private void fail(String what) {
        wrong++;
        if (wrong <= MOST_TOLD) {
            System.out.println(now + ": " + what);
        }
    }

    /** Tells how it went; the exit code is 1 if something was wrong. */
    void end() {
        for (Map.Entry<String, Integer> test : checks.entrySet()) {
            now = test.getKey();
            if (test.getValue() == 0) {
                fail("nothing is asked for it");
            }
        }
        for (String section : named.keySet()) {
            now = section;
            String left = left(section);
            if (!left.isEmpty()) {
                fail("no test names \"" + left + "\"");
            }
        }
        System.out.println(checks.size() + " sentences, " + asked + " answers, " + wrong + " not as due");
        if (wrong != 0) {
            System.exit(1);
        }
    }

    private String left(String section) {
        String words = doc.words(section);
        StringBuilder left = new StringBuilder();
        boolean[] was = named.get(section);
        for (int i = 0; i < was.length; i++) {
            if (!was[i] && (Character.isLetterOrDigit(words.charAt(i)) || left.length() > 0)) {
                left.append(words.charAt(i));
            }
        }
        return left.toString().trim();
    }
}
