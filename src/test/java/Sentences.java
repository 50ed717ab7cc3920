import java.io.IOException;
import java.nio.file.Files;
import java.nio.file.Path;
import java.util.Arrays;
import java.util.LinkedHashMap;
import java.util.Map;

/**
 * Tests by the document's own words: each quotes the words that it is for, which have to stand once in their section
 * of DOC.md; and in the end every word of the sections that a test goes through has to be quoted by one of its tests.
 */
final class Sentences {
    private static final Path DOCUMENT = Path.of("../shared/DOC.md");

    private final Checks checks;
    private final Map<String, String> sections = new LinkedHashMap<>();
    private final Map<String, boolean[]> quoted = new LinkedHashMap<>();
    private String section = "";

    Sentences(String test) throws IOException {
        checks = new Checks(test);
        String name = "";
        for (String line : Files.readString(DOCUMENT).split("\n")) {
            if (line.startsWith("## ")) {
                name = line.substring(3).replaceAll(":.*", "").strip();
            } else if (!line.startsWith("```") && !line.startsWith("Ahead of the calls")) {
                sections.merge(name, line.replaceAll("^`[^`]*`:", ""), (a, b) -> a + " " + b);
            }
        }
        sections.replaceAll((heading, text) -> text.replaceAll("\\s+", " "));
    }

    Checks checks() {
        return checks;
    }

    /** The tests that follow are for words of this section. */
    void in(String heading) {
        checks.yes("a section " + heading, sections.containsKey(heading));
        section = heading;
    }

    /** Likewise, and all words of this section have to be quoted. */
    void of(String heading) {
        in(heading);
        quoted.put(heading, new boolean[sections.getOrDefault(heading, "").length()]);
    }

    /** The runs (see Script) are the test of these words. */
    void says(String words, String... runs) {
        quote(words);
        checks.yes(section + ", " + words + " has a run", runs.length > 0);
        for (int k = 0; k < runs.length; k++) {
            Script.run(checks, section + ", " + words + " (run " + (k + 1) + ")", runs[k]);
        }
    }

    /** Marks words whose test is written elsewhere in the same file. */
    void quote(String words) {
        String text = sections.getOrDefault(section, "");
        int at = text.indexOf(words);
        checks.yes(section + " has once: " + words, at >= 0 && text.indexOf(words, at + 1) < 0);
        if (at >= 0 && quoted.containsKey(section)) {
            Arrays.fill(quoted.get(section), at, at + words.length(), true);
        }
    }

    void end() {
        quoted.forEach((heading, marks) -> {
            StringBuilder left = new StringBuilder();
            for (int i = 0; i < marks.length; i++) {
                left.append(marks[i] ? '|' : sections.get(heading).charAt(i));
            }
            String rest = left.toString().replaceAll("\\|+", " | ").replaceAll("==== \\d", "");
            checks.yes(heading + ": words without a test: " + rest, !rest.matches(".*\\w.*"));
        });
        checks.end();
    }
}
