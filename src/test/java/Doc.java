import java.io.IOException;
import java.nio.file.Files;
import java.nio.file.Path;
import java.util.HashMap;
import java.util.List;
import java.util.Map;
import java.util.regex.Matcher;
import java.util.regex.Pattern;

/** The document's words by section: "terms 1" .. "terms 3", "constants", "acts", "asks", "promise 1" .. "promise 25". */
final class Doc {
    private static final Pattern TERM = Pattern.compile("([1-3])\\. .*");
    private static final Pattern PROMISE = Pattern.compile("## Promise (\\d+): .*");

    private final Map<String, StringBuilder> sections = new HashMap<>();

    /** Without a section, if there is no document beside the checkout. */
    static Doc read() {
        Doc doc = new Doc();
        Path file = Path.of(System.getProperty("project.root", "."), "../shared/DOC.md");
        if (!Files.isReadable(file)) {
            System.out.println("no " + file + ": what tests quote is not compared with it");
            return doc;
        }
        try {
            doc.sort(Files.readAllLines(file));
        } catch (IOException e) {
            throw new IllegalStateException("can't read " + file, e);
        }
        return doc;
    }

    private void sort(List<String> lines) {
        String section = "";
        for (String line : lines) {
            section = sectionAt(line, section);
            if (!line.startsWith("#") && !line.startsWith("```")) {
                sections.computeIfAbsent(section, s -> new StringBuilder()).append(line).append(' ');
            }
        }
    }

    private static String sectionAt(String line, String before) {
        Matcher promise = PROMISE.matcher(line);
        Matcher term = TERM.matcher(line);
        if (promise.matches()) {
            return "promise " + promise.group(1);
        }
        if (line.startsWith("#")) {
            return line.equals("## Terms") ? "terms" : "";
        }
        if (before.startsWith("terms") && term.matches()) {
            return "terms " + term.group(1);
        }
        if (line.startsWith("The constants:")) {
            return "constants";
        }
        if (line.startsWith("Ahead of the calls")) {
            return line.contains("---- acts") ? "acts" : "asks";
        }
        return before;
    }

    boolean isThere() {
        return !sections.isEmpty();
    }

    /** A section's words, a blank between them, without a promise's head and a term's number. */
    String words(String section) {
        String all = sections.getOrDefault(section, new StringBuilder()).toString();
        String bare = section.startsWith("promise") ? all.replaceFirst("^\\s*`[^`]*`:", "") : all;
        if (section.startsWith("terms")) {
            bare = bare.replaceFirst("^\\s*\\d\\.", "");
        }
        return flat(bare);
    }

    static String flat(String text) {
        return text.replace("`", "").replaceAll("\\s+", " ").trim();
    }
}
