import java.io.IOException;
import java.nio.file.Files;
import java.nio.file.Path;
import java.util.ArrayList;
import java.util.List;
import java.util.regex.Pattern;

/** Sentences of the document, each with the test that it holds. The tests are run in the folder of the project. */
final class Sentence {
    /** Stands for the description, where otherwise the number of a promise stands. */
    static final int DESCRIPTION = 0;
    private static final int PROMISES = 32;
    private static final Path DOCUMENT = Path.of("../shared/DOC.md");
    /** What tells a boundary: a number, a bound, a condition, nothing at all, or a limit. */
    private static final Pattern BOUNDARY = Pattern.compile("\\d|\\b(if|most|none|no|not|once|again|empty|without|same|beyond"
            + "|limited|any|cannot|smallest|greatest|latest|first|last|before|overflow|unchanged|successful|long as)\\b");

    private static final List<List<String>> TESTED = new ArrayList<>();
    private static final String[] SECTIONS = sections();

    private Sentence() {
    }

    /** The document with its lines joined: the description, and then the promises in their order. */
    private static String[] sections() {
        for (int i = 0; i <= PROMISES; i++) {
            TESTED.add(new ArrayList<>());
        }
        try {
            String text = Files.readString(DOCUMENT);
            text = text.substring(0, text.indexOf("\n## The public face")) + text.substring(text.indexOf("\n## Description"));
            return text.substring(0, text.indexOf("\n## Not promised")).split("\n## Promise \\d+: ");
        } catch (IOException e) {
            throw new IllegalStateException("no document at " + DOCUMENT.toAbsolutePath(), e);
        }
    }

    /** Makes the test of a sentence, or of a part of one, which must stand in the document at this promise. */
    static void holds(int promise, String words, Runnable test) {
        Due.about((promise == DESCRIPTION ? "the description" : "promise " + promise) + ", \"" + words + "\": ");
        if (!SECTIONS[promise].contains(words)) {
            Due.fail("this does not stand there");
        }
        TESTED.get(promise).add(words);
        try {
            test.run();
        } catch (RuntimeException e) {
            Due.fail("a call threw " + e);
        }
        Due.about("");
    }

    /** Each sentence that tells a boundary must have a test of its own. */
    static void eachBoundaryIsTested() {
        Due.is("the promises of the document", SECTIONS.length - 1, PROMISES);
        for (int promise = 0; promise < SECTIONS.length; promise++) {
            String section = SECTIONS[promise];
            for (String line : section.substring(section.indexOf('\n')).split("\n")) {
                for (String sentence : line.split("(?<=\\.)\\)? +(?=[A-Z(])")) {
                    if (!isTested(promise, sentence) && BOUNDARY.matcher(sentence).find() && !isHeading(sentence)) {
                        Due.fail("promise " + promise + ": no test of \"" + sentence + "\"");
                    }
                }
            }
        }
    }

    private static boolean isHeading(String sentence) {
        return sentence.startsWith("#") || sentence.endsWith(":") || sentence.endsWith("`");
    }

    private static boolean isTested(int promise, String sentence) {
        return TESTED.get(promise).stream().anyMatch(words -> words.contains(sentence) || sentence.contains(words));
    }
}
