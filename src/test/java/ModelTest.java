import java.util.Random;

/**
 * Random runs of calls, each answer compared with that of NaiveFlyers (short asks) or of WideFlyers (all asks).
 * The seeds are fixed. Arguments: how many short runs, how many wide ones.
 */
public final class ModelTest {
    private static final Checks CHECKS = new Checks("ModelTest");

    private final Random random;
    private final SmallFlyers x = new SmallFlyers();
    private final NaiveFlyers y;
    private final StringBuilder log = new StringBuilder("new");
    private final int start;
    private final int span;
    private final int most;
    private final int side;
    private final boolean crowded;

    private ModelTest(long seed, boolean wide) {
        random = new Random(seed);
        y = wide ? new WideFlyers() : new NaiveFlyers();
        span = wide ? 8 + random.nextInt(50) : 4 + random.nextInt(8);
        most = wide ? 30 : 3 + random.nextInt(4);
        side = wide ? 6 : 4;
        crowded = random.nextInt(2) == 0;
        start = random.nextInt(4) == 0 ? 59 - span : random.nextInt(60 - span);
    }

    private int below(int n) {
        return random.nextInt(n);
    }

    private int odd(int usual) {
        if (below(60) != 0) {
            return usual;
        }
        int[] strange = {-1, Integer.MIN_VALUE, Integer.MAX_VALUE, 60, 36, 10, 100, 31, 5, 4, -900009};
        return strange[below(strange.length)];
    }

    private int cell() {
        return odd(below(y.w * y.h + below(12) / 11));
    }

    private int minute() {
        return odd(Math.max(0, Math.min(59, start - 2 + below(span + 6))));
    }

    private int ask() {
        return odd(below(Math.max(1, y.asks.size())));
    }

    private void due(String call, int got, int want) {
        log.append("; ").append(call).append("=").append(want);
        if (got != want && CHECKS.clean()) {
            System.out.println(log);
        }
        CHECKS.due(call, got, want);
    }

    private void told() {
        int c = cell();
        int from = minute();
        int to = minute();
        int more = below(30);
        switch (below(6)) {
            case 0: due("shut(" + c + "," + from + "," + to + ")", x.shut(c, from, to), y.shut(c, from, to)); break;
            case 1:
            case 2: due("folk(" + c + "," + from + "," + (from + more) + ")",
                    x.folk(c, from, from + more), y.folk(c, from, from + more)); break;
            case 3: due("ears(" + c + "," + more + ")", x.ears(c, more), y.ears(c, more)); break;
            case 4: int speed = odd(below(4));
                due("silent(" + c + "," + from + "," + speed + ")", x.silent(c, from, speed), y.silent(c, from, speed));
                break;
            default: int what = odd(below(2));
                int v = odd(below(what == 0 ? 5 : 3));
                due("rule(" + what + "," + v + ")", x.rule(what, v), y.rule(what, v));
        }
    }

    /** Folk nearly everywhere, ears in most cells, and cells that are shut in between. */
    private void crowd() {
        int kind = below(4);
        for (int k = 0; k < 20 && (kind & 1) == 0; k++) {
            int c = below(y.w * y.h);
            int from = Math.max(0, start - below(6));
            int to = Math.min(59, from + below(span + 6));
            due("folk(" + c + "," + from + "," + to + ")", x.folk(c, from, to), y.folk(c, from, to));
        }
        for (int k = 0; k < y.w * y.h / 3 && kind < 2; k++) {
            int c = below(y.w * y.h);
            int from = Math.max(0, start + below(span));
            int to = Math.min(59, from + below(6));
            due("shut(" + c + "," + from + "," + to + ")", x.shut(c, from, to), y.shut(c, from, to));
        }
        for (int c = 0; c < y.w * y.h; c++) {
            int v = below(3) == 0 ? 0 : below(100);
            due("ears(" + c + "," + v + ")", x.ears(c, v), y.ears(c, v));
        }
    }

    private void newAsk() {
        int f = cell();
        int t = cell();
        int e = odd(start + below(Math.max(1, span / 2)));
        int l = odd(e + 1 + below(span));
        if (l > start + span && l < 100) {
            l = start + span;
        }
        int c = odd(1 + below(most));
        if (c > most && c <= 30) {
            c = most;
        }
        int r = odd(1 + below(9));
        int u = odd(1 + below(9));
        due("ask(" + f + "," + t + "," + e + "," + l + "," + c + "," + r + "," + u + ")",
                x.ask(f, t, e, l, c, r, u), y.ask(f, t, e, l, c, r, u));
    }

    private void asked() {
        int a = ask();
        int b = ask();
        int i = odd(below(7) - 1);
        int what = odd(below(2));
        int near = odd(below(4));
        switch (below(12)) {
            case 0: due("soonest(" + a + ")", x.soonest(a), y.soonest(a)); break;
            case 1: due("soonestAt(" + a + "," + what + "," + i + ")", x.soonestAt(a, what, i), y.soonestAt(a, what, i)); break;
            case 2:
            case 3: due("give(" + a + ")", x.give(a), y.give(a)); break;
            case 4: due("giveQuiet(" + a + ")", x.giveQuiet(a), y.giveQuiet(a)); break;
            case 5: due("take(" + a + ")", x.take(a), y.take(a)); break;
            case 6: due("meet(" + a + "," + b + "," + near + ")", x.meet(a, b, near), y.meet(a, b, near)); break;
            case 7: due("bars(" + a + ")", x.bars(a), y.bars(a)); break;
            case 8: due("bar(" + a + "," + i + ")", x.bar(a, i), y.bar(a, i)); break;
            case 9: due("quietest(" + a + ")", x.quietest(a), y.quietest(a)); break;
            case 10: due("price(" + a + ")", x.price(a), y.price(a)); break;
            default: due("quietAt(" + a + "," + what + "," + i + ")", x.quietAt(a, what, i), y.quietAt(a, what, i));
        }
    }

    private void several() {
        int set = odd(below(1 << Math.max(1, y.asks.size())) & (below(4) == 0 ? -1 : ~givenOnes()));
        int i = odd(below(6) - 1);
        switch (below(4)) {
            case 0: due("atOnce(" + set + ")", x.atOnce(set), y.atOnce(set)); break;
            case 1: due("order(" + set + "," + i + ")", x.order(set, i), y.order(set, i)); break;
            case 2: due("giveAll(" + set + ")", x.giveAll(set), y.giveAll(set)); break;
            default: due("atOnce(0)", x.atOnce(0), y.atOnce(0));
        }
    }

    private int givenOnes() {
        int set = 0;
        for (int a = 0; a < y.asks.size(); a++) {
            set |= y.isGiven(a) ? 1 << a : 0;
        }
        return set;
    }

    private void looked() {
        int c = cell();
        int t = minute();
        int a = ask();
        int i = odd(below(4) - 1);
        switch (below(10)) {
            case 0: due("down(" + c + "," + t + ")", x.down(c, t), y.down(c, t)); break;
            case 1: due("open(" + c + "," + t + ")", x.open(c, t), y.open(c, t)); break;
            case 2: due("where(" + a + "," + t + ")", x.where(a, t), y.where(a, t)); break;
            case 3: due("could(" + t + ")", x.could(t), y.could(t)); break;
            case 4: due("couldBe(" + c + "," + t + ")", x.couldBe(c, t), y.couldBe(c, t)); break;
            case 5: due("ledOff()", x.ledOff(), y.ledOff()); break;
            case 6: due("led(" + i + ")", x.led(i), y.led(i)); break;
            case 7: due("ledAt(" + a + ")", x.ledAt(a), y.ledAt(a)); break;
            case 8: due("noise(" + c + ")", x.noise(c), y.noise(c)); break;
            default: due("about(" + a + "," + (i + 4) + ")", x.about(a, i + 4), y.about(a, i + 4));
        }
    }

    private void whole() {
        due("worst(false)", x.worst(false), y.worst(false));
        due("worst(true)", x.worst(true), y.worst(true));
        for (int what = -1; what <= 6; what++) {
            due("count(" + what + ")", x.count(what), y.count(what));
        }
        for (int a = 0; a < y.asks.size(); a++) {
            for (int t = 0; t < 60 && y.isGiven(a); t++) {
                if (y.asks.get(a).given.flies(t)) {
                    due("where(" + a + "," + t + ")", x.where(a, t), y.where(a, t));
                }
            }
        }
    }

    private void run() {
        int w = 2 + below(side - 1);
        int h = 2 + below(side - 1);
        due("air(" + w + "," + h + ")", x.air(w, h), y.air(w, h));
        if (crowded) {
            crowd();
        }
        for (int k = 0; k < 60; k++) {
            int kind = below(20);
            if (k < 8 ? kind < 8 : kind < 1) {
                told();
            } else if (k < 16 ? kind < 16 : kind < 3) {
                newAsk();
            } else if (kind < 11) {
                asked();
            } else if (kind < 14) {
                several();
            } else if (kind < 19) {
                looked();
            } else if (below(12) == 0) {
                int a = odd(2 + below(4));
                due("air(" + a + ",3)", x.air(a, 3), y.air(a, 3));
            }
        }
        whole();
    }

    public static void main(String[] args) {
        long runs = args.length > 0 ? Long.parseLong(args[0]) : 1500;
        long wideRuns = args.length > 1 ? Long.parseLong(args[1]) : 100;
        for (long seed = 1; seed <= runs && CHECKS.clean(); seed++) {
            new ModelTest(seed, false).run();
        }
        for (long seed = 1; seed <= wideRuns && CHECKS.clean(); seed++) {
            new ModelTest(seed, true).run();
        }
        CHECKS.end();
    }
}
