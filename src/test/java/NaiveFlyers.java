import java.util.ArrayList;
import java.util.Collections;
import java.util.Comparator;
import java.util.HashSet;
import java.util.IdentityHashMap;
import java.util.List;
import java.util.Map;
import java.util.Set;
import java.util.TreeSet;

/**
 * The document said over again in the most literal way, to compare with: every WAY of an ask is written out and
 * the first by the document's own order is taken; nothing is shared with the program that is tested.
 * It is slow: asks have to be short (a CHARGE of some six minutes, some twelve from EARLIEST to LATEST).
 */
class NaiveFlyers {
    static final int UNKNOWN = -900001, OUTSIDE = -900002, STATE = -900003, FULL = -900004, NONE = -900009;

    record Span(int cell, int from, int to) { }

    record Way(int b, List<Integer> cells) {
        int e() {
            return b + cells.size() - 1;
        }

        boolean flies(int t) {
            return t >= b && t <= e();
        }

        int at(int t) {
            return cells.get(t - b);
        }
    }

    static final class Ask {
        int[] told;
        Way given;
    }

    int w = 4, h = 4, glide = 1, near = 0;
    List<Span> shuts = new ArrayList<>();
    List<Span> folks = new ArrayList<>();
    List<Ask> asks = new ArrayList<>();
    int[] ears = new int[36];
    int[] seen = null;
    /** Written out before, until the air is told otherwise. */
    private final Map<int[], List<Way>> written = new IdentityHashMap<>();
    private final Boolean[][] openBefore = new Boolean[36][60];

    private void toldOtherwise() {
        written.clear();
        for (Boolean[] row : openBefore) {
            java.util.Arrays.fill(row, null);
        }
    }

    // ---- the air

    boolean cell(int c) {
        return c >= 0 && c < w * h;
    }

    static boolean minute(int t) {
        return t >= 0 && t <= 59;
    }

    int dx(int a, int b) {
        return Math.abs(a % w - b % w);
    }

    int dy(int a, int b) {
        return Math.abs(a / w - b / w);
    }

    List<Integer> beside(int c) {
        List<Integer> all = new ArrayList<>();
        for (int o = 0; o < w * h; o++) {
            if (dx(c, o) + dy(c, o) == 1) {
                all.add(o);
            }
        }
        return all;
    }

    static boolean told(List<Span> spans, int c, int t) {
        for (Span s : spans) {
            if (s.cell() == c && s.from() <= t && t <= s.to()) {
                return true;
            }
        }
        return false;
    }

    int air(int w, int h) {
        if (w < 2 || w > 6 || h < 2 || h > 6) {
            return OUTSIDE;
        }
        this.w = w;
        this.h = h;
        shuts.clear();
        folks.clear();
        asks.clear();
        ears = new int[36];
        seen = null;
        toldOtherwise();
        return w * h;
    }

    int tell(List<Span> spans, int c, int from, int to) {
        if (!cell(c)) {
            return UNKNOWN;
        }
        if (!minute(from) || !minute(to) || to < from) {
            return OUTSIDE;
        }
        if (spans.size() == 20) {
            return FULL;
        }
        spans.add(new Span(c, from, to));
        toldOtherwise();
        return spans.size();
    }

    int shut(int c, int from, int to) {
        return tell(shuts, c, from, to);
    }

    int folk(int c, int from, int to) {
        return tell(folks, c, from, to);
    }

    int rule(int what, int v) {
        if (what < 0 || what > 1 || v < 0 || v > (what == 0 ? 4 : 3)) {
            return OUTSIDE;
        }
        toldOtherwise();
        int was = what == 0 ? glide : near;
        if (what == 0) {
            glide = v;
        } else {
            near = v;
        }
        return was;
    }

    boolean downIn(int c, int t, int steps) {
        if (steps == 0) {
            return !told(folks, c, t);
        }
        for (int o : beside(c)) {
            if (downIn(o, t + 1, steps - 1)) {
                return true;
            }
        }
        return false;
    }

    int shortestDown(int c, int t) {
        for (int steps = 0; steps <= glide; steps++) {
            if (downIn(c, t, steps)) {
                return steps;
            }
        }
        return NONE;
    }

    int down(int c, int t) {
        return !cell(c) ? UNKNOWN : !minute(t) ? OUTSIDE : shortestDown(c, t);
    }

    boolean isOpen(int c, int t) {
        if (openBefore[c][t] == null) {
            openBefore[c][t] = !told(shuts, c, t) && shortestDown(c, t) != NONE;
        }
        return openBefore[c][t];
    }

    int open(int c, int t) {
        return !cell(c) ? UNKNOWN : !minute(t) ? OUTSIDE : isOpen(c, t) ? 1 : 0;
    }

    // ---- asks

    boolean known(int a) {
        return a >= 0 && a < asks.size();
    }

    int ask(int from, int to, int earliest, int latest, int charge, int rank, int hum) {
        if (!cell(from) || !cell(to)) {
            return UNKNOWN;
        }
        if (!minute(earliest) || !minute(latest) || latest <= earliest || charge < 1 || charge > 30
                || rank < 1 || rank > 9 || hum < 1 || hum > 9) {
            return OUTSIDE;
        }
        if (from == to) {
            return STATE;
        }
        if (asks.size() == 10) {
            return FULL;
        }
        Ask a = new Ask();
        a.told = new int[] {from, to, earliest, latest, charge, rank, hum};
        asks.add(a);
        return asks.size() - 1;
    }

    int about(int a, int what) {
        if (!known(a)) {
            return UNKNOWN;
        }
        if (what < 0 || what > 7) {
            return OUTSIDE;
        }
        return what < 7 ? asks.get(a).told[what] : asks.get(a).given == null ? 0 : 1;
    }

    int stepOf(int a, int b) {
        if (b % w > a % w) {
            return 0;
        }
        if (b / w > a / w) {
            return 1;
        }
        if (b % w < a % w) {
            return 2;
        }
        return b / w < a / w ? 3 : 4;
    }

    List<Integer> steps(Way way) {
        List<Integer> all = new ArrayList<>();
        for (int i = 1; i < way.cells().size(); i++) {
            all.add(stepOf(way.cells().get(i - 1), way.cells().get(i)));
        }
        return all;
    }

    static int compareLists(List<Integer> p, List<Integer> q) {
        for (int i = 0; i < Math.min(p.size(), q.size()); i++) {
            if (!p.get(i).equals(q.get(i))) {
                return p.get(i) - q.get(i);
            }
        }
        return p.size() - q.size();
    }

    boolean meets(Way p, Way q, int near) {
        for (int t = 0; t <= 59; t++) {
            if (p.flies(t) && q.flies(t) && Math.max(dx(p.at(t), q.at(t)), dy(p.at(t), q.at(t))) <= near) {
                return true;
            }
            if (p.flies(t) && q.flies(t) && p.flies(t + 1) && q.flies(t + 1)
                    && p.at(t) == q.at(t + 1) && q.at(t) == p.at(t + 1)) {
                return true;
            }
        }
        return false;
    }

    List<Way> waysOf(int[] told) {
        return written.computeIfAbsent(told, this::writeOut);
    }

    private List<Way> writeOut(int[] told) {
        List<Way> all = new ArrayList<>();
        for (int b = told[2]; b < told[3]; b++) {
            for (int e = b + 1; e <= told[3] && e - b <= told[4]; e++) {
                List<Integer> cells = new ArrayList<>();
                cells.add(told[0]);
                if (isOpen(told[0], b)) {
                    extend(all, b, e, cells, told[1]);
                }
            }
        }
        return all;
    }

    private void extend(List<Way> all, int b, int e, List<Integer> cells, int to) {
        int c = cells.get(cells.size() - 1);
        int t = b + cells.size() - 1;
        if (t == e) {
            if (c == to) {
                all.add(new Way(b, new ArrayList<>(cells)));
            }
            return;
        }
        if (dx(c, to) + dy(c, to) > e - t) {
            return;
        }
        List<Integer> next = beside(c);
        next.add(c);
        for (int o : next) {
            if (isOpen(o, t + 1)) {
                cells.add(o);
                extend(all, b, e, cells, to);
                cells.remove(cells.size() - 1);
            }
        }
    }

    private List<Way> apartFrom(List<Way> ways, List<Way> others) {
        List<Way> all = new ArrayList<>();
        for (Way way : ways) {
            boolean clear = true;
            for (Way other : others) {
                clear = clear && !meets(way, other, near);
            }
            if (clear) {
                all.add(way);
            }
        }
        return all;
    }

    List<Way> given(Set<Integer> without) {
        List<Way> all = new ArrayList<>();
        for (int a = 0; a < asks.size(); a++) {
            if (asks.get(a).given != null && !without.contains(a)) {
                all.add(asks.get(a).given);
            }
        }
        return all;
    }

    Comparator<Way> bySoon() {
        Comparator<Way> order = Comparator.comparingInt(Way::e);
        order = order.thenComparingInt(v -> -v.b());
        return order.thenComparing((p, q) -> compareLists(steps(p), steps(q)));
    }

    Way soonestWay(int a) {
        return soonestAmong(asks.get(a).told, given(Set.of()));
    }

    Way quietestWay(int a) {
        return quietestAmong(asks.get(a).told, given(Set.of()));
    }

    Way soonestAmong(int[] told, List<Way> others) {
        return firstSoon(apartFrom(waysOf(told), others));
    }

    private Way firstSoon(List<Way> ways) {
        return ways.isEmpty() ? null : Collections.min(ways, bySoon());
    }

    boolean isGiven(int a) {
        return asks.get(a).given != null;
    }

    int soonest(int a) {
        if (!known(a)) {
            return UNKNOWN;
        }
        if (isGiven(a)) {
            return STATE;
        }
        Way way = soonestWay(a);
        return way == null ? NONE : way.e();
    }

    int tellOf(Way way, int what, int i) {
        if (way == null) {
            return NONE;
        }
        if (what == 0) {
            return way.b();
        }
        List<Integer> all = steps(way);
        return i < 0 || i >= all.size() ? NONE : all.get(i);
    }

    int soonestAt(int a, int what, int i) {
        if (!known(a)) {
            return UNKNOWN;
        }
        if (what != 0 && what != 1) {
            return OUTSIDE;
        }
        return isGiven(a) ? STATE : tellOf(soonestWay(a), what, i);
    }

    int give(int a) {
        if (!known(a)) {
            return UNKNOWN;
        }
        if (isGiven(a) || soonestWay(a) == null) {
            return STATE;
        }
        asks.get(a).given = soonestWay(a);
        return asks.get(a).given.e();
    }

    int giveQuiet(int a) {
        if (!known(a)) {
            return UNKNOWN;
        }
        if (isGiven(a) || quietestWay(a) == null) {
            return STATE;
        }
        asks.get(a).given = quietestWay(a);
        return asks.get(a).given.e();
    }

    int take(int a) {
        if (!known(a)) {
            return UNKNOWN;
        }
        if (!isGiven(a)) {
            return STATE;
        }
        int e = asks.get(a).given.e();
        asks.get(a).given = null;
        return e;
    }

    int where(int a, int t) {
        if (!known(a)) {
            return UNKNOWN;
        }
        if (!minute(t)) {
            return OUTSIDE;
        }
        if (!isGiven(a)) {
            return STATE;
        }
        return asks.get(a).given.flies(t) ? asks.get(a).given.at(t) : NONE;
    }

    int meet(int a, int b, int near) {
        if (!known(a) || !known(b)) {
            return UNKNOWN;
        }
        if (near < 0 || near > 3) {
            return OUTSIDE;
        }
        if (!isGiven(a) || !isGiven(b)) {
            return STATE;
        }
        return meets(asks.get(a).given, asks.get(b).given, near) ? 1 : 0;
    }

    /** The sets of given ones without which there is a way, the best first; null if there is none. */
    List<Integer> barsOf(int a) {
        List<Integer> givenOnes = new ArrayList<>();
        for (int o = 0; o < asks.size(); o++) {
            if (isGiven(o)) {
                givenOnes.add(o);
            }
        }
        List<Integer> best = null;
        for (int mask = 0; mask < 1 << givenOnes.size(); mask++) {
            List<Integer> without = new ArrayList<>();
            for (int k = 0; k < givenOnes.size(); k++) {
                if ((mask >> k & 1) != 0) {
                    without.add(givenOnes.get(k));
                }
            }
            boolean better = best == null || without.size() < best.size()
                    || without.size() == best.size() && compareLists(without, best) < 0;
            if (better && soonestAmong(asks.get(a).told, given(new HashSet<>(without))) != null) {
                best = without;
            }
        }
        return best;
    }

    int bars(int a) {
        if (!known(a)) {
            return UNKNOWN;
        }
        if (isGiven(a)) {
            return STATE;
        }
        List<Integer> best = barsOf(a);
        return best == null ? NONE : best.size();
    }

    int bar(int a, int i) {
        if (!known(a)) {
            return UNKNOWN;
        }
        if (isGiven(a)) {
            return STATE;
        }
        List<Integer> best = barsOf(a);
        return best == null || i < 0 || i >= best.size() ? NONE : best.get(i);
    }

    int refuseSet(int set) {
        for (int k = 0; k < 32; k++) {
            if ((set >>> k & 1) != 0 && !known(k)) {
                return OUTSIDE;
            }
        }
        if (Integer.bitCount(set) > 5) {
            return OUTSIDE;
        }
        for (int k = 0; k < asks.size(); k++) {
            if ((set >>> k & 1) != 0 && isGiven(k)) {
                return STATE;
            }
        }
        return 0;
    }

    List<List<Integer>> ordersOf(int set) {
        List<List<Integer>> all = new ArrayList<>();
        orders(all, new ArrayList<>(), set);
        return all;
    }

    private void orders(List<List<Integer>> all, List<Integer> begun, int left) {
        if (left == 0) {
            all.add(new ArrayList<>(begun));
        }
        for (int k = 0; k < 10; k++) {
            if ((left >>> k & 1) != 0) {
                begun.add(k);
                orders(all, begun, left & ~(1 << k));
                begun.remove(begun.size() - 1);
            }
        }
    }

    int costOf(List<Integer> order) {
        int cost = 0;
        List<Way> others = given(Set.of());
        for (int a : order) {
            int[] told = asks.get(a).told;
            Way way = soonestAmong(told, others);
            if (way == null) {
                cost += told[5] * 100;
            } else {
                cost += told[5] * (way.e() - told[2]);
                others.add(way);
            }
        }
        return cost;
    }

    private int leastCost;

    List<Integer> bestOrder(int set) {
        List<Integer> best = null;
        for (List<Integer> order : ordersOf(set)) {
            int cost = costOf(order);
            if (best == null || cost < leastCost || cost == leastCost && compareLists(order, best) < 0) {
                best = order;
                leastCost = cost;
            }
        }
        return best;
    }

    int atOnce(int set) {
        if (refuseSet(set) != 0) {
            return refuseSet(set);
        }
        bestOrder(set);
        return leastCost;
    }

    int order(int set, int i) {
        if (refuseSet(set) != 0) {
            return refuseSet(set);
        }
        List<Integer> best = bestOrder(set);
        return i < 0 || i >= best.size() ? NONE : best.get(i);
    }

    int giveAll(int set) {
        if (refuseSet(set) != 0) {
            return refuseSet(set);
        }
        int many = 0;
        for (int a : bestOrder(set)) {
            asks.get(a).given = soonestWay(a);
            many += isGiven(a) ? 1 : 0;
        }
        return many;
    }

    // ---- silent ones

    int silent(int c, int t, int speed) {
        if (!cell(c)) {
            return UNKNOWN;
        }
        if (!minute(t) || speed < 0 || speed > 3) {
            return OUTSIDE;
        }
        seen = new int[] {c, t, speed};
        return 1;
    }

    Set<Integer> couldAt(int t) {
        Set<Integer> all = new TreeSet<>();
        if (seen == null || t < seen[1]) {
            return all;
        }
        if (t == seen[1]) {
            all.add(seen[0]);
            return all;
        }
        for (int c : couldAt(t - 1)) {
            all.add(c);
            roam(all, c, t, seen[2]);
        }
        return all;
    }

    private void roam(Set<Integer> all, int c, int t, int steps) {
        if (steps == 0) {
            return;
        }
        for (int o : beside(c)) {
            if (!told(shuts, o, t)) {
                all.add(o);
                roam(all, o, t, steps - 1);
            }
        }
    }

    int could(int t) {
        return minute(t) ? couldAt(t).size() : OUTSIDE;
    }

    int couldBe(int c, int t) {
        return !cell(c) ? UNKNOWN : !minute(t) ? OUTSIDE : couldAt(t).contains(c) ? 1 : 0;
    }

    int firstLed(int a) {
        Way way = asks.get(a).given;
        for (int t = 0; t <= 59 && way != null; t++) {
            if (way.flies(t) && couldAt(t).contains(way.at(t))) {
                return t;
            }
        }
        return NONE;
    }

    List<Integer> allLed() {
        List<Integer> all = new ArrayList<>();
        for (int a = 0; a < asks.size(); a++) {
            if (isGiven(a) && firstLed(a) != NONE) {
                all.add(a);
            }
        }
        return all;
    }

    int ledOff() {
        return allLed().size();
    }

    int led(int i) {
        List<Integer> all = allLed();
        return i < 0 || i >= all.size() ? NONE : all.get(i);
    }

    int ledAt(int a) {
        return !known(a) ? UNKNOWN : !isGiven(a) ? STATE : firstLed(a);
    }

    // ---- noise

    int ears(int c, int v) {
        if (!cell(c)) {
            return UNKNOWN;
        }
        if (v < 0 || v > 99) {
            return OUTSIDE;
        }
        int was = ears[c];
        ears[c] = v;
        return was;
    }

    int heard(Way way, int hum, int c) {
        int sum = 0;
        for (int at : way.cells()) {
            int x = dx(at, c);
            int y = dy(at, c);
            int sound = x + y == 0 ? 4 : x + y == 1 ? 2 : x == 1 && y == 1 ? 1 : 0;
            sum += sound * hum * ears[c];
        }
        return sum;
    }

    int noiseOf(int c) {
        int sum = 0;
        for (Ask a : asks) {
            if (a.given != null) {
                sum += heard(a.given, a.told[6], c);
            }
        }
        return sum;
    }

    int noise(int c) {
        return cell(c) ? noiseOf(c) : UNKNOWN;
    }

    int worst(boolean asked) {
        int best = 0;
        for (int c = 0; c < w * h; c++) {
            if (noiseOf(c) > noiseOf(best)) {
                best = c;
            }
        }
        return asked ? best : noiseOf(best);
    }

    int growth(Way way, int hum) {
        int sum = 0;
        for (int c = 0; c < w * h; c++) {
            sum += heard(way, hum, c);
        }
        return sum;
    }

    Way quietestAmong(int[] told, List<Way> others) {
        int hum = told[6];
        List<Way> ways = apartFrom(waysOf(told), others);
        int least = Integer.MAX_VALUE;
        for (Way way : ways) {
            least = Math.min(least, growth(way, hum));
        }
        List<Way> quiet = new ArrayList<>();
        for (Way way : ways) {
            if (growth(way, hum) == least) {
                quiet.add(way);
            }
        }
        return firstSoon(quiet);
    }

    int quietest(int a) {
        if (!known(a)) {
            return UNKNOWN;
        }
        if (isGiven(a)) {
            return STATE;
        }
        Way way = quietestWay(a);
        return way == null ? NONE : growth(way, asks.get(a).told[6]);
    }

    int price(int a) {
        if (!known(a)) {
            return UNKNOWN;
        }
        if (isGiven(a)) {
            return STATE;
        }
        Way way = quietestWay(a);
        return way == null ? NONE : way.e() - soonestWay(a).e();
    }

    int quietAt(int a, int what, int i) {
        if (!known(a)) {
            return UNKNOWN;
        }
        if (what != 0 && what != 1) {
            return OUTSIDE;
        }
        return isGiven(a) ? STATE : tellOf(quietestWay(a), what, i);
    }

    int count(int what) {
        switch (what) {
            case 0: return w * h;
            case 1: return shuts.size();
            case 2: return folks.size();
            case 3: return asks.size();
            case 4: return given(Set.of()).size();
            case 5:
                int sum = 0;
                for (Way way : given(Set.of())) {
                    sum += way.e() - way.b();
                }
                return sum;
            default: return OUTSIDE;
        }
    }
}
