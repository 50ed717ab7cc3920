import java.lang.reflect.Method;
import java.lang.reflect.Modifier;
import java.util.ArrayList;
import java.util.Comparator;
import java.util.List;
import java.util.Random;

/** No call may throw, whatever the numbers are, in any state; and what is refused changes nothing. */
public final class AnyNumbersTest {
    private static final Checks C = new Checks("AnyNumbersTest");
    private static final int[] EDGES = {0, 1, 2, 3, 4, 5, 6, 7, 8, 9, 10, 11, 15, 16, 30, 31, 32, 35, 36, 58, 59, 60, 61, 99,
        100, 1023, 1024, -1, -2, -60, Integer.MAX_VALUE, Integer.MAX_VALUE - 1, Integer.MIN_VALUE, Integer.MIN_VALUE + 1};

    private static List<Method> calls() {
        List<Method> all = new ArrayList<>();
        for (Method m : SmallFlyers.class.getDeclaredMethods()) {
            if (Modifier.isPublic(m.getModifiers())) {
                all.add(m);
            }
        }
        all.sort(Comparator.comparing(Method::getName));
        return all;
    }

    private static int oneNumber(Random random) {
        return random.nextInt(3) == 0 ? EDGES[random.nextInt(EDGES.length)] : random.nextInt(12);
    }

    private static boolean isRefusal(int answer) {
        return answer <= SmallFlyers.UNKNOWN && answer >= SmallFlyers.FULL;
    }

    private static String stateOf(SmallFlyers x) {
        StringBuilder text = new StringBuilder();
        for (int what = 0; what < 6; what++) {
            text.append(x.count(what)).append(' ');
        }
        for (int a = 0; a < x.count(3); a++) {
            for (int what = 0; what < 8; what++) {
                text.append(x.about(a, what)).append(' ');
            }
            for (int t = 0; t < 60; t++) {
                text.append(x.where(a, t)).append(' ');
            }
        }
        for (int t = 0; t < 60; t++) {
            for (int c = 0; c < x.count(0); c++) {
                text.append(x.open(c, t)).append(x.couldBe(c, t));
            }
        }
        return text.append(x.worst(true)).append(' ').append(x.worst(false)).toString();
    }

    private static void run(List<Method> calls, long seed, boolean compared) throws ReflectiveOperationException {
        Random random = new Random(seed);
        SmallFlyers x = new SmallFlyers();
        for (int k = 0; k < 512; k++) {
            Method call = calls.get(random.nextInt(calls.size()));
            if (call.getName().equals("air") && random.nextInt(8) != 0) {
                continue;
            }
            Object[] numbers = new Object[call.getParameterCount()];
            for (int i = 0; i < numbers.length; i++) {
                numbers[i] = oneNumber(random);
                if (call.getParameterTypes()[i] == boolean.class) {
                    numbers[i] = random.nextBoolean();
                }
            }
            String before = compared ? stateOf(x) : "";
            int answer = (Integer) call.invoke(x, numbers);
            if (compared && isRefusal(answer)) {
                C.yes(call.getName() + " refused changes nothing", before.equals(stateOf(x)));
            }
            C.yes(call.getName() + " answers a refusal, NONE or no less than 0", answer >= 0 || isRefusal(answer)
                    || answer == SmallFlyers.NONE);
        }
    }

    public static void main(String[] args) throws ReflectiveOperationException {
        List<Method> calls = calls();
        C.due("calls", calls.size(), 33);
        for (long seed = 1; seed <= 300; seed++) {
            run(calls, seed, seed <= 10);
        }
        C.end();
    }
}
