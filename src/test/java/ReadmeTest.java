import java.io.IOException;
import java.lang.reflect.InvocationTargetException;
import java.lang.reflect.Method;
import java.lang.reflect.Modifier;
import java.nio.file.Files;
import java.nio.file.Path;
import java.util.Set;
import java.util.TreeSet;
import java.util.regex.Matcher;
import java.util.regex.Pattern;

/** The calls that README.md shows answer what it says, and it shows every call that there is. */
public final class ReadmeTest {
    private static final Pattern MADE = Pattern.compile("MemoryMaker x = new MemoryMaker\\(\\);.*");
    private static final Pattern CALL = Pattern.compile("x\\.(\\w+)\\(([^)]*)\\);\\s*// (-?\\w+)(:.*)?");

    private final Check check = new Check();
    private final Set<String> shown = new TreeSet<>();
    private MemoryMaker x;

    public static void main(String[] args) throws IOException, ReflectiveOperationException {
        ReadmeTest t = new ReadmeTest();
        t.examples(Path.of(System.getProperty("project.root", "."), "README.md"));
        t.allShown();
        t.check.end();
    }

    private void examples(Path file) throws IOException, ReflectiveOperationException {
        boolean java = false;
        for (String line : Files.readAllLines(file)) {
            if (line.startsWith("```")) {
                java = line.equals("```java");
            } else if (java) {
                example(line);
            }
        }
    }

    private void example(String line) throws ReflectiveOperationException {
        Matcher call = CALL.matcher(line);
        if (MADE.matcher(line).matches()) {
            x = new MemoryMaker();
        } else if (call.matches()) {
            shown.add(call.group(1));
            check.due(line, answer(call.group(1), call.group(2)), call.group(3));
        } else {
            check.due(line + " is a call with its answer", false, true);
        }
    }

    private String answer(String name, String given) throws ReflectiveOperationException {
        String[] parts = given.isEmpty() ? new String[0] : given.split(", ");
        for (Method m : MemoryMaker.class.getMethods()) {
            if (m.getName().equals(name) && m.getParameterCount() == parts.length) {
                return call(m, parts);
            }
        }
        return "no such call";
    }

    private String call(Method m, String[] parts) throws IllegalAccessException, InvocationTargetException {
        Object[] values = new Object[parts.length];
        for (int i = 0; i < parts.length; i++) {
            boolean truth = m.getParameterTypes()[i] == boolean.class;
            values[i] = truth ? (Object) Boolean.valueOf(parts[i]) : (Object) Integer.decode(parts[i]);
        }
        return String.valueOf(m.invoke(x, values));
    }

    private void allShown() {
        for (Method m : MemoryMaker.class.getDeclaredMethods()) {
            if (Modifier.isPublic(m.getModifiers())) {
                check.due(m.getName() + " is shown", shown.contains(m.getName()), true);
            }
        }
    }
}
