import java.util.ArrayList;
import java.util.Collections;
import java.util.List;

/** NaiveFlyers for long asks, whose ways are too many to write out: looked up minute by minute, with a memory. */
final class WideFlyers extends NaiveFlyers {
    private static final int FAR = Integer.MAX_VALUE;

    private int to;
    private int e;
    private int hum;
    private List<Way> others;
    private Boolean[][] leads;
    private Integer[][] costs;

    private List<Integer> nextOf(int c) {
        List<Integer> all = beside(c);
        all.add(c);
        all.sort((p, q) -> stepOf(c, p) - stepOf(c, q));
        return all;
    }

    private boolean isFree(int c, int t) {
        if (!isOpen(c, t)) {
            return false;
        }
        for (Way other : others) {
            if (other.flies(t) && Math.max(dx(c, other.at(t)), dy(c, other.at(t))) <= near) {
                return false;
            }
        }
        return true;
    }

    private boolean changes(int c, int next, int t) {
        for (Way other : others) {
            if (other.flies(t) && other.flies(t + 1) && other.at(t) == next && other.at(t + 1) == c) {
                return true;
            }
        }
        return false;
    }

    private boolean leadsOn(int c, int t) {
        if (leads[c][t] == null) {
            boolean any = false;
            if (isFree(c, t)) {
                any = t == e && c == to;
                for (int next : t < e ? nextOf(c) : Collections.<Integer>emptyList()) {
                    any = any || !changes(c, next, t) && leadsOn(next, t + 1);
                }
            }
            leads[c][t] = any;
        }
        return leads[c][t];
    }

    @Override
    Way soonestAmong(int[] told, List<Way> given) {
        others = given;
        to = told[1];
        for (e = told[2] + 1; e <= told[3]; e++) {
            leads = new Boolean[36][60];
            for (int b = e - 1; b >= told[2] && e - b <= told[4]; b--) {
                if (leadsOn(told[0], b)) {
                    return firstWay(told[0], b);
                }
            }
        }
        return null;
    }

    private Way firstWay(int from, int b) {
        List<Integer> cells = new ArrayList<>(List.of(from));
        for (int t = b; t < e; t++) {
            int c = cells.get(cells.size() - 1);
            for (int next : nextOf(c)) {
                if (!changes(c, next, t) && leadsOn(next, t + 1)) {
                    cells.add(next);
                    break;
                }
            }
        }
        return new Way(b, cells);
    }

    private int costOf(int c, int t) {
        if (costs[c][t] == null) {
            int least = FAR;
            if (isFree(c, t)) {
                least = t == e && c == to ? 0 : FAR;
                for (int next : t < e ? nextOf(c) : Collections.<Integer>emptyList()) {
                    if (!changes(c, next, t)) {
                        least = Math.min(least, costOf(next, t + 1));
                    }
                }
            }
            costs[c][t] = least == FAR ? FAR : least + growth(new Way(t, List.of(c)), hum);
        }
        return costs[c][t];
    }

    @Override
    Way quietestAmong(int[] told, List<Way> given) {
        others = given;
        to = told[1];
        hum = told[6];
        int least = FAR;
        Way best = null;
        for (e = told[2] + 1; e <= told[3]; e++) {
            costs = new Integer[36][60];
            for (int b = e - 1; b >= told[2] && e - b <= told[4]; b--) {
                if (costOf(told[0], b) < least) {
                    least = costOf(told[0], b);
                    best = quietWay(told[0], b);
                }
            }
        }
        return best;
    }

    private Way quietWay(int from, int b) {
        List<Integer> cells = new ArrayList<>(List.of(from));
        for (int t = b; t < e; t++) {
            int c = cells.get(cells.size() - 1);
            int rest = costOf(c, t) - growth(new Way(t, List.of(c)), hum);
            for (int next : nextOf(c)) {
                if (!changes(c, next, t) && costOf(next, t + 1) == rest) {
                    cells.add(next);
                    break;
                }
            }
        }
        return new Way(b, cells);
    }
}
