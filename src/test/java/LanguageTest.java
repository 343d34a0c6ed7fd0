import java.io.IOException;
import java.nio.file.Files;
import java.nio.file.Path;
import java.util.HashSet;
import java.util.List;
import java.util.Set;
import java.util.regex.Matcher;
import java.util.regex.Pattern;

/** Rules of LANGUAGE.md that can be seen in the lines of the program. It is run in the folder of the project. */
public final class LanguageTest {
    private static final Path PROGRAM = Path.of("src/main/java/WindyTours.java");
    private static final Pattern METHOD =
            Pattern.compile("^ {4,8}((?:public |private |static )*)[\\w\\[\\]]+ (\\w+)\\(([^)]*)\\)(?: throws [\\w, ]+)? \\{$");
    private static final Pattern FORBIDDEN = Pattern.compile("->|::|\\b(catch|finally|synchronized|assert|instanceof"
            + "|equals|hashCode|toString|Random|Thread|nanoTime|currentTimeMillis|Exact|double|float|protected)\\b|\" \\+|\\+ \"");
    private static final Pattern ELEMENT = Pattern.compile("(?<!new )\\b\\w+\\[[^\\]]+\\]");
    /** These look at the index before they use it. */
    private static final Set<String> MAY_INDEX = Set.of("at", "put", "byteAt", "addWord", "isReady", "remember", "restore");
    private static final Set<String> THROWN = Set.of("IllegalArgumentException", "IndexOutOfBoundsException",
            "NoSuchElementException", "IllegalStateException");

    public static void main(String[] args) throws IOException {
        List<String> lines = Files.readAllLines(PROGRAM);
        imports(lines);
        words(lines);
        methods(lines);
        Due.end();
    }

    private static void imports(List<String> lines) {
        for (String line : lines) {
            if (line.startsWith("import") && !line.equals("import java.util.NoSuchElementException;")) {
                Due.fail("rule 4: " + line);
            }
            if (line.startsWith("package")) {
                Due.fail("a package: " + line);
            }
        }
    }

    private static void words(List<String> lines) {
        for (String line : lines) {
            String code = line.replaceFirst("(/\\*\\*|//| \\* ).*", "");
            if (FORBIDDEN.matcher(code).find()) {
                Due.fail("rules 2 to 10: " + line);
            }
            if (code.matches(".*\\bstatic\\b.*[;=].*") && !code.contains("final") && !code.contains("(")) {
                Due.fail("rule 5: " + line);
            }
            Matcher thrown = Pattern.compile("throw new (\\w+)\\(\"[\\w ]+\"\\);").matcher(code);
            if (code.contains("throw ") && !(thrown.find() && THROWN.contains(thrown.group(1)))) {
                Due.fail("rule 6: " + line);
            }
        }
    }

    private static void methods(List<String> lines) {
        Set<String> publicNames = new HashSet<>();
        for (String line : lines) {
            Matcher method = METHOD.matcher(line);
            if (method.matches() && method.group(1).startsWith("public")) {
                publicNames.add(method.group(2));
            }
        }
        for (int i = 0; i < lines.size(); i++) {
            Matcher method = METHOD.matcher(lines.get(i));
            if (!method.matches()) {
                continue;
            }
            String name = method.group(2);
            if (!method.group(1).startsWith("public") && publicNames.contains(name)) {
                Due.fail("rule 1: the name of a public method: " + name);
            }
            if (method.group(3).split(",").length > 7) {
                Due.fail("rule 11: more than seven parameters: " + name);
            }
            String last = lines.get(i).replaceAll("\\S.*", "}");
            List<String> body = lines.subList(i + 1, i + lines.subList(i, lines.size()).indexOf(last));
            if (body.size() > 60) {
                Due.fail("rule 11: a long method: " + name);
            }
            for (String line : body) {
                if (!MAY_INDEX.contains(name) && !line.contains("\"") && ELEMENT.matcher(line).find()) {
                    Due.fail("rule 7: an index in " + name + ": " + line);
                }
            }
        }
    }
}
