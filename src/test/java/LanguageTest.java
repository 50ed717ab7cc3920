import java.lang.management.ManagementFactory;
import java.lang.reflect.Constructor;
import java.lang.reflect.Field;
import java.lang.reflect.Method;
import java.lang.reflect.Modifier;
import java.nio.file.Files;
import java.nio.file.Path;
import java.util.ArrayList;
import java.util.Arrays;
import java.util.List;
import java.util.TreeSet;
import java.util.regex.Matcher;
import java.util.regex.Pattern;

/** The face of the document, the rules of LANGUAGE.md that can be seen from outside, and the room that calls take. */
public final class LanguageTest {
    private static final Checks C = new Checks("LanguageTest");
    private static final String[] FACE = {
        "air(int,int)", "shut(int,int,int)", "folk(int,int,int)", "rule(int,int)", "down(int,int)", "open(int,int)",
        "ask(int,int,int,int,int,int,int)", "about(int,int)", "soonest(int)", "soonestAt(int,int,int)", "give(int)",
        "giveQuiet(int)", "take(int)", "where(int,int)", "meet(int,int,int)", "bars(int)", "bar(int,int)",
        "atOnce(int)", "order(int,int)", "giveAll(int)", "silent(int,int,int)", "could(int)", "couldBe(int,int)",
        "ledOff()", "led(int)", "ledAt(int)", "ears(int,int)", "noise(int)", "worst(boolean)", "quietest(int)",
        "price(int)", "quietAt(int,int,int)", "count(int)",
    };

    private static String shapeOf(Method m) {
        StringBuilder text = new StringBuilder(m.getName()).append('(');
        for (Class<?> p : m.getParameterTypes()) {
            text.append(text.charAt(text.length() - 1) == '(' ? "" : ",").append(p.getName());
        }
        return text.append(')').toString();
    }

    private static void face() {
        Class<?> c = SmallFlyers.class;
        C.yes("public and final", Modifier.isPublic(c.getModifiers()) && Modifier.isFinal(c.getModifiers()));
        TreeSet<String> shapes = new TreeSet<>();
        TreeSet<String> names = new TreeSet<>();
        for (Method m : c.getDeclaredMethods()) {
            if (!Modifier.isPrivate(m.getModifiers())) {
                C.yes(m + " is public and answers an int", Modifier.isPublic(m.getModifiers())
                        && !Modifier.isStatic(m.getModifiers()) && m.getReturnType() == int.class);
                shapes.add(shapeOf(m));
                names.add(m.getName());
            }
        }
        C.yes("the methods of the face: " + shapes, shapes.equals(new TreeSet<>(Arrays.asList(FACE))));
        C.due("constructors", c.getDeclaredConstructors().length, 1);
        for (Constructor<?> k : c.getDeclaredConstructors()) {
            C.yes("constructor", Modifier.isPublic(k.getModifiers()) && k.getParameterCount() == 0);
        }
        constants(c);
        List<Class<?>> all = new ArrayList<>(List.of(c));
        all.addAll(List.of(c.getDeclaredClasses()));
        C.yes("some twelve classes", all.size() <= 12);
        for (Class<?> one : all) {
            members(one, names);
        }
    }

    private static void constants(Class<?> c) {
        TreeSet<String> seen = new TreeSet<>();
        for (Field f : c.getDeclaredFields()) {
            if (!Modifier.isPrivate(f.getModifiers())) {
                seen.add(f.getName());
                C.yes(f + " is a public constant", Modifier.isPublic(f.getModifiers())
                        && Modifier.isStatic(f.getModifiers()) && Modifier.isFinal(f.getModifiers()));
            }
        }
        C.yes("the constants of the face: " + seen,
                seen.equals(new TreeSet<>(List.of("UNKNOWN", "OUTSIDE", "STATE", "FULL", "NONE"))));
    }

    private static void members(Class<?> one, TreeSet<String> faceNames) {
        int fields = 0;
        for (Field f : one.getDeclaredFields()) {
            fields += Modifier.isStatic(f.getModifiers()) ? 0 : 1;
            C.yes(f + ": a static field is final", !Modifier.isStatic(f.getModifiers())
                    || Modifier.isFinal(f.getModifiers()));
        }
        C.yes(one + " has some twenty fields", fields <= 20);
        for (Method m : one.getDeclaredMethods()) {
            C.yes(m + " takes seven at most", m.getParameterCount() <= 7);
            C.yes(m + " bears no name of the face", Modifier.isPublic(m.getModifiers())
                    || !faceNames.contains(m.getName()));
        }
        if (one != SmallFlyers.class) {
            C.yes(one + " is static", Modifier.isStatic(one.getModifiers()));
        }
    }

    private static void source() throws Exception {
        String text = Files.readString(Path.of("src/main/java/SmallFlyers.java"));
        String code = text.replaceAll("(?s)/\\*.*?\\*/", " ").replaceAll("//[^\n]*", " ");
        String[] banned = {"throw", "throws", "try", "catch", "finally", "synchronized", "assert", "import", "package",
            "protected", "volatile", "native", "Object", "Exact", "instanceof", "System", "Random", "Thread"};
        for (String word : banned) {
            C.yes("no word " + word, !Pattern.compile("\\b" + word + "\\b").matcher(code).find());
        }
        C.yes("no lambda", !code.contains("->"));
        C.yes("no method reference", !code.contains("::"));
        C.yes("no divisor", !code.contains("/") && !code.contains("%"));
        C.yes("plain signs", text.chars().allMatch(sign -> sign < 128));
        Matcher made = Pattern.compile("\\bnew\\b[^\n]*").matcher(code);
        while (made.find()) {
            String before = code.substring(Math.max(0, made.start() - 40), made.start());
            C.yes("made in a field or a constructor: " + made.group(), before.contains("final ")
                    || before.matches("(?s).*(town|book|roofs|sky|hush|barring|plan|stray|asks\\[n\\]) = $"));
        }
        library(code);
        methodLengths(text);
    }

    /** Every name with a great and a small letter is a class of the file or one of the library's few that it uses. */
    private static void library(String code) {
        TreeSet<String> known = new TreeSet<>(List.of("Math", "Integer", "Long"));
        Matcher own = Pattern.compile("\\bclass (\\w+)").matcher(code);
        while (own.find()) {
            known.add(own.group(1));
        }
        Matcher name = Pattern.compile("\\b[A-Z]\\w*[a-z]\\w*").matcher(code);
        while (name.find()) {
            C.yes("a class of the file or of the list: " + name.group(), known.contains(name.group()));
        }
        Matcher used = Pattern.compile("\\b(Math|Integer|Long)\\.(\\w+)").matcher(code);
        while (used.find()) {
            C.yes("in the list: " + used.group(), List.of("max", "min", "abs", "bitCount").contains(used.group(2)));
        }
    }

    private static void methodLengths(String text) {
        String[] lines = text.split("\n");
        int begun = -1;
        for (int k = 0; k < lines.length; k++) {
            if (lines[k].matches("^( {4}| {8})[a-zA-Z].*[)] [{]$") && !lines[k].contains("class ")) {
                begun = k;
            } else if (lines[k].matches("^( {4}| {8})[}]$") && begun >= 0) {
                C.yes("a method of some sixty lines: " + lines[begun], k - begun <= 60);
                begun = -1;
            }
        }
    }

    /** All calls of a run live in one room: what is made is made by the constructor. */
    private static void room() {
        com.sun.management.ThreadMXBean bean = (com.sun.management.ThreadMXBean) ManagementFactory.getThreadMXBean();
        long id = Thread.currentThread().getId();
        SmallFlyers x = new SmallFlyers();
        everyCall(x);
        bean.getThreadAllocatedBytes(id);
        long before = bean.getThreadAllocatedBytes(id);
        long idle = bean.getThreadAllocatedBytes(id) - before;
        before = bean.getThreadAllocatedBytes(id);
        everyCall(x);
        long used = bean.getThreadAllocatedBytes(id) - before - idle;
        C.yes("calls make nothing, but made bytes: " + used, used <= 0);
        before = bean.getThreadAllocatedBytes(id);
        SmallFlyers other = new SmallFlyers();
        long made = bean.getThreadAllocatedBytes(id) - before - idle;
        C.yes("an object is small: " + made + " bytes, " + other.count(0), made < 40000);
    }

    private static int everyCall(SmallFlyers x) {
        int sum = x.air(6, 6) + x.shut(14, 5, 9) + x.folk(15, 3, 30) + x.rule(0, 2) + x.rule(1, 1);
        for (int k = 0; k < 10; k++) {
            sum += x.ask(k, 35 - k, k, 59, 30, 1 + k % 9, 1 + k % 9) + x.ears(3 * k, 10 * k);
        }
        sum += x.down(15, 4) + x.open(15, 4) + x.about(3, 4) + x.soonest(1) + x.soonestAt(1, 1, 2);
        sum += x.give(0) + x.giveQuiet(1) + x.giveAll(0x3c) + x.take(0) + x.where(1, 9) + x.meet(1, 2, 3);
        sum += x.bars(9) + x.bar(9, 0) + x.atOnce(0x3c1) + x.order(0x3c1, 1) + x.silent(20, 3, 2);
        sum += x.could(5) + x.couldBe(21, 5) + x.ledOff() + x.led(0) + x.ledAt(1) + x.noise(9);
        sum += x.worst(true) + x.worst(false) + x.quietest(9) + x.price(8) + x.quietAt(8, 1, 0) + x.count(5);
        return sum;
    }

    public static void main(String[] args) throws Exception {
        face();
        source();
        room();
        C.end();
    }
}
