/** Counts answers that are not as due; a test's main ends by end(). */
final class Checks {
    private final String test;
    private int calls = 0;
    private int wrong = 0;

    Checks(String test) {
        this.test = test;
    }

    void due(String what, long got, long want) {
        calls++;
        if (got != want) {
            wrong++;
            if (wrong <= 40) {
                System.out.println(test + ": " + what + " answered " + got + ", due is " + want);
            }
        }
    }

    void yes(String what, boolean holds) {
        due(what, holds ? 1 : 0, 1);
    }

    boolean clean() {
        return wrong == 0;
    }

    void end() {
        System.out.println(test + ": " + calls + " answers, " + wrong + " not as due");
        if (wrong != 0 || calls == 0) {
            System.exit(1);
        }
    }
}
