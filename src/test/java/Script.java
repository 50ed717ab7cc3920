import java.lang.reflect.Method;
import java.util.ArrayList;
import java.util.List;
import java.util.regex.Matcher;
import java.util.regex.Pattern;

/**
 * Calls written as text, run on a new object: "air(3, 3) = 9; 19x shut(1, 0, 0); shut(1, 0, 0) = 20".
 * Behind "=" stands the answer that is due, a number or a constant of the face; "19x" makes a call so many times.
 * MIN and MAX are the least and the greatest int.
 */
final class Script {
    private static final Pattern CALL = Pattern.compile("(?:(\\d+)x )?(\\w+)\\(([^)]*)\\)(?: = (-?\\w+))?");
    /** What later calls answer is free. */
    static final int MOST_CALLS = 512;

    private final SmallFlyers flyers = new SmallFlyers();
    private final Checks checks;
    private final String about;
    private final List<Integer> answers = new ArrayList<>();

    private Script(Checks checks, String about) {
        this.checks = checks;
        this.about = about;
    }

    /** Runs the calls and tells all their answers. */
    static List<Integer> run(Checks checks, String about, String text) {
        Script script = new Script(checks, about);
        for (String part : text.split(";")) {
            if (!part.isBlank()) {
                script.make(part.strip());
            }
        }
        checks.yes(about + ": a run has 512 calls at most", script.answers.size() <= MOST_CALLS);
        return script.answers;
    }

    /** The calls with each number from 0 on instead of their "#". */
    static String forEach(int many, String calls) {
        StringBuilder text = new StringBuilder();
        for (int k = 0; k < many; k++) {
            text.append(calls.replace("#", "" + k));
        }
        return text.toString();
    }

    private void make(String part) {
        Matcher m = CALL.matcher(part);
        if (!m.matches()) {
            throw new IllegalArgumentException(about + ": no call: " + part);
        }
        int times = m.group(1) == null ? 1 : Integer.parseInt(m.group(1));
        for (int k = 0; k < times; k++) {
            int answer = call(m.group(2), m.group(3).isBlank() ? new String[0] : m.group(3).split(","));
            answers.add(answer);
            if (m.group(4) != null) {
                String which = ": call " + answers.size() + ", " + part.split(" = ")[0] + ",";
                checks.due(about + which, answer, number(m.group(4)));
            }
        }
    }

    private int call(String name, String[] words) {
        Object[] values = new Object[words.length];
        Class<?>[] types = new Class<?>[words.length];
        for (int i = 0; i < words.length; i++) {
            String word = words[i].strip();
            boolean truth = word.equals("true") || word.equals("false");
            types[i] = truth ? boolean.class : int.class;
            values[i] = truth ? (Object) Boolean.valueOf(word) : (Object) number(word);
        }
        try {
            Method method = SmallFlyers.class.getMethod(name, types);
            return (Integer) method.invoke(flyers, values);
        } catch (ReflectiveOperationException e) {
            throw new IllegalStateException(about + ": " + name, e);
        }
    }

    private static int number(String word) {
        switch (word) {
            case "UNKNOWN": return SmallFlyers.UNKNOWN;
            case "OUTSIDE": return SmallFlyers.OUTSIDE;
            case "STATE": return SmallFlyers.STATE;
            case "FULL": return SmallFlyers.FULL;
            case "NONE": return SmallFlyers.NONE;
            case "MIN": return Integer.MIN_VALUE;
            case "MAX": return Integer.MAX_VALUE;
            default: return Integer.parseInt(word);
        }
    }
}
