import java.io.File;
import java.io.IOException;
import java.lang.reflect.Method;
import java.lang.reflect.Modifier;
import java.nio.file.Files;
import java.nio.file.Path;
import java.util.regex.Matcher;
import java.util.regex.Pattern;

/** What README.md says of the use of the class: its calls answer so, and no call and no test is left out. */
public final class ReadmeTest {
    private static final Checks C = new Checks("ReadmeTest");
    private static final Pattern LINE = Pattern.compile("town\\.(\\w+\\([^)]*\\)); *// (-?\\w+)(:.*)?");

    /** The lines of the use as one run of calls, each with the answer that stands behind it. */
    private static String runOf(String block) {
        StringBuilder run = new StringBuilder();
        for (String line : block.split("\n")) {
            Matcher m = LINE.matcher(line);
            if (m.matches()) {
                run.append(m.group(1)).append(" = ").append(m.group(2)).append("; ");
            } else {
                C.yes("a call with its answer: " + line, line.isBlank() || line.contains("new SmallFlyers()"));
            }
        }
        return run.toString();
    }

    private static void use(String text) {
        Matcher block = Pattern.compile("(?s)```java\n(.*?)```").matcher(text);
        boolean found = block.find();
        C.yes("README.md shows the use", found);
        String run = found ? runOf(block.group(1)) : "";
        C.yes("README.md shows calls", !run.isEmpty());
        Script.run(C, "README.md", run);
    }

    private static void everyCall(String text) {
        for (Method call : SmallFlyers.class.getDeclaredMethods()) {
            if (Modifier.isPublic(call.getModifiers())) {
                C.yes("README.md names " + call.getName(), text.contains("`" + call.getName() + "`"));
            }
        }
    }

    private static void everyTest(String text) {
        String[] files = new File("src/test/java").list();
        C.yes("there are tests", files != null && files.length > 0);
        for (String file : files == null ? new String[0] : files) {
            if (file.endsWith("Test.java")) {
                C.yes("README.md names " + file, text.contains(file));
            }
        }
        C.yes("README.md says how to run the tests", text.contains(".ci/run"));
    }

    private static void constants(String text) {
        C.yes("UNKNOWN", text.contains("`UNKNOWN` (" + SmallFlyers.UNKNOWN));
        C.yes("OUTSIDE", text.contains("`OUTSIDE` (" + SmallFlyers.OUTSIDE));
        C.yes("STATE", text.replaceAll("\\s+", " ").contains("`STATE` (" + SmallFlyers.STATE));
        C.yes("FULL", text.contains("`FULL` (" + SmallFlyers.FULL));
        C.yes("NONE", text.contains("`NONE` (" + SmallFlyers.NONE));
    }

    public static void main(String[] args) throws IOException {
        String text = Files.readString(Path.of("README.md"));
        use(text);
        everyCall(text);
        everyTest(text);
        constants(text);
        C.end();
    }
}
