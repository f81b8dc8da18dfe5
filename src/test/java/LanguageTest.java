import java.io.IOException;
import java.lang.reflect.Constructor;
import java.lang.reflect.Field;
import java.lang.reflect.Member;
import java.lang.reflect.Method;
import java.lang.reflect.Modifier;
import java.nio.file.Files;
import java.nio.file.Path;
import java.util.Arrays;
import java.util.List;
import java.util.Set;
import java.util.TreeSet;
import java.util.regex.Matcher;
import java.util.regex.Pattern;

/** What of LANGUAGE.md a program can see in the file and in the class: rules 1, 2, 4 to 6, and 11 to 13. */
public final class LanguageTest {
    private static final String[] FACE = {"feed IIIII int", "end I int", "spec  int", "fault I int", "set II int",
        "bad III int", "heal II int", "write II int", "why I int", "undo  int", "count I int", "shape II int",
        "wished I int", "given IZ int", "cell II int", "place III int", "read I int", "test Z int", "view II int",
        "agree  int", "most II int", "fewest  int", "image I boolean", "again I boolean"};
    private static final String[] NEVER = {"throw", "throws", "try", "catch", "finally", "synchronized", "assert", "->",
        "::", "protected", "Exact(", "package", "native", "volatile", "Math.random", "System.nano", "System.current",
        "hashCode", "toString", "equals"};

    /** What rule 4 leaves of the library's own classes, and no more of it than is used. */
    private static final Set<String> LIBRARY = Set.of("Integer.bitCount", "Math.min", "Math.max", "Math.abs",
        "System.arraycopy", "Arrays.fill");
    private static final Pattern LIBRARY_CALL =
        Pattern.compile("\\b(Integer|Long|Math|System|Arrays|String|Character|Boolean|Objects|List|Short|Byte)\\.(\\w+)");
    private static final int MOST_LINES = 60;

    private final Check check = new Check();

    public static void main(String[] args) throws IOException {
        LanguageTest t = new LanguageTest();
        t.face();
        t.documentFace();
        t.inside();
        t.text();
        t.shortMethods();
        t.makesFew();
        t.check.end();
    }

    private static String sign(Method m) {
        StringBuilder s = new StringBuilder(m.getName()).append(' ');
        for (Class<?> c : m.getParameterTypes()) {
            s.append(c == boolean.class ? 'Z' : c == int.class ? 'I' : '?');
        }
        return s.append(' ').append(m.getReturnType().getSimpleName()).toString();
    }

    private void face() {
        Class<?> c = MemoryMaker.class;
        check.due("public and final", Modifier.isPublic(c.getModifiers()) && Modifier.isFinal(c.getModifiers()), true);
        Set<String> due = new TreeSet<>(Arrays.asList(FACE));
        Set<String> is = new TreeSet<>();
        Set<String> names = new TreeSet<>();
        for (Method m : c.getDeclaredMethods()) {
            if (Modifier.isPublic(m.getModifiers())) {
                is.add(sign(m));
                names.add(m.getName());
            }
        }
        check.due("the face", is.toString(), due.toString());
        for (Method m : c.getDeclaredMethods()) {
            boolean open = Modifier.isPublic(m.getModifiers());
            check.due(m + " is private", open || Modifier.isPrivate(m.getModifiers()), true);
            check.due(m + " has a name of its own", !open && names.contains(m.getName()), false);
        }
        for (Field f : c.getDeclaredFields()) {
            boolean none = f.getName().equals("NONE");
            check.due(f + " is private", none || Modifier.isPrivate(f.getModifiers()), true);
        }
        Constructor<?>[] makers = c.getDeclaredConstructors();
        check.due("one constructor", makers.length, 1);
        check.due("without parameters", makers[0].getParameterCount(), 0);
    }

    /** Each row of the document's face, in its words, stands in the program, and there are no more public ones. */
    private void documentFace() throws IOException {
        Path document = Path.of(System.getProperty("project.root", "."), "../shared/DOC.md");
        if (!Files.isReadable(document)) {
            System.out.println("no " + document + ": the face is not compared with it");
            return;
        }
        Set<String> due = new TreeSet<>();
        boolean inFace = false;
        for (String line : Files.readAllLines(document)) {
            inFace = !line.startsWith("```") && (inFace || line.startsWith("public final class"));
            if (inFace && line.trim().startsWith("public")) {
                due.add(row(line));
            }
        }
        Set<String> is = new TreeSet<>();
        for (String line : program()) {
            if (line.trim().startsWith("public")) {
                is.add(row(line));
            }
        }
        check.due("rows of the face", due.size(), FACE.length + 3);
        check.due("the document's face", is.toString(), due.toString());
    }

    private static String row(String line) {
        return line.trim().replaceAll("\\s*[;{]$", "");
    }

    private static List<String> program() throws IOException {
        return Files.readAllLines(Path.of(System.getProperty("project.root", "."), "src/main/java/MemoryMaker.java"));
    }

    private void inside() {
        Class<?> c = MemoryMaker.class;
        Class<?>[] inside = c.getDeclaredClasses();
        check.due("at most twelve classes", inside.length + 1 <= 12, true);
        Set<String> names = new TreeSet<>();
        for (String f : FACE) {
            names.add(f.substring(0, f.indexOf(' ')));
        }
        for (Class<?> k : inside) {
            check.due(k + " is static", Modifier.isStatic(k.getModifiers()), true);
            check.due(k + " is final", Modifier.isFinal(k.getModifiers()), true);
            int fields = 0;
            for (Field f : k.getDeclaredFields()) {
                fields += Modifier.isStatic(f.getModifiers()) ? 0 : 1;
                staticOnlyConstant(f);
            }
            check.due(k + " has few fields", fields <= 20, true);
            for (Method m : k.getDeclaredMethods()) {
                check.due(m + " has a name of its own", names.contains(m.getName()), false);
                fewParameters(m, m.getParameterCount());
            }
        }
        for (Field f : c.getDeclaredFields()) {
            staticOnlyConstant(f);
        }
    }

    private void staticOnlyConstant(Field f) {
        boolean constant = !Modifier.isStatic(f.getModifiers()) || Modifier.isFinal(f.getModifiers());
        check.due(f + " is no static state", constant, true);
    }

    private void fewParameters(Member m, int n) {
        check.due(m + " has few parameters", n <= 7, true);
    }

    private void text() throws IOException {
        List<String> lines = program();
        boolean comment = false;
        for (int i = 0; i < lines.size(); i++) {
            String line = lines.get(i);
            String bare = line.trim();
            comment = comment || bare.startsWith("/*");
            boolean code = !comment && !bare.startsWith("//");
            comment = comment && !bare.endsWith("*/");
            for (String never : NEVER) {
                check.due("line " + (i + 1) + " has no " + never, code && has(line, never), false);
            }
            boolean import1 = bare.startsWith("import") && !bare.equals("import java.util.Arrays;");
            check.due("line " + (i + 1) + " imports", import1, false);
            Matcher call = LIBRARY_CALL.matcher(line);
            while (code && !bare.startsWith("import") && call.find()) {
                check.due("line " + (i + 1) + " may use " + call.group(), LIBRARY.contains(call.group()), true);
            }
        }
    }

    /** By the file's own layout: a method begins with a row that ends in ") {", and ends with a brace as far in. */
    private void shortMethods() throws IOException {
        List<String> lines = program();
        int from = -1;
        String end = "";
        for (int i = 0; i < lines.size(); i++) {
            String line = lines.get(i);
            String bare = line.trim();
            if (bare.endsWith(") {") && !bare.matches("(if|for|while|switch|} else)\\b.*")) {
                from = i;
                end = line.substring(0, line.length() - bare.length()) + "}";
            } else if (from >= 0 && line.equals(end)) {
                check.due("lines of the method at " + (from + 1), i - from + 1 <= MOST_LINES, true);
                from = -1;
            }
        }
        check.due("all methods end", from, -1);
    }

    /** Rule 12: beside fields of objects, only a row of the past and an image are made, each once. */
    private void makesFew() throws IOException {
        Set<String> made = new TreeSet<>();
        for (String line : program()) {
            String bare = line.trim();
            if (has(bare, "new") && !bare.matches("(private )?final .*") && !bare.matches("(/\\*\\*|\\*|//).*")) {
                made.add(bare);
            }
        }
        check.due("what methods make", made.toString(), "[images[k] = new State();, ring[next] = new Memory();]");
    }

    private static boolean has(String line, String word) {
        boolean letters = Character.isLetter(word.charAt(0)) && Character.isLetter(word.charAt(word.length() - 1));
        Matcher m = Pattern.compile(letters ? "\\b" + Pattern.quote(word) + "\\b" : Pattern.quote(word)).matcher(line);
        return m.find();
    }
}
