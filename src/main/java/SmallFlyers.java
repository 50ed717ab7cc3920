/** Ways for small flyers: see README.md for the use, and the document for what each call promises. */
public final class SmallFlyers {
    public static final int UNKNOWN = -900001, OUTSIDE = -900002, STATE = -900003, FULL = -900004, NONE = -900009;

    private static final int MINUTES = 60;
    private static final int LEAST_SIDE = 2;
    private static final int MOST_SIDE = 6;
    private static final int MOST_CELLS = 36;
    private static final int MOST_SPANS = 20;
    private static final int MOST_GLIDE = 4;
    private static final int MOST_NEAR = 3;
    private static final int MOST_ASKS = 10;
    private static final int MOST_CHARGE = 30;
    private static final int MOST_RANK = 9;
    private static final int MOST_HUM = 9;
    private static final int MOST_AT_ONCE = 5;
    private static final int LEFT_OUT = 100;
    private static final int MOST_SPEED = 3;
    private static final int MOST_EARS = 99;
    private static final int SIDES = 4;
    private static final int STAYS = 4;
    private static final int NOWHERE = -1;
    private static final int FINE = 0;
    private static final int FAR = 1000000000;

    private final Town town;
    private final Book book;
    private final Roofs roofs;
    private final Sky sky;
    private final Hush hush;
    private final Bars barring;
    private final Plan plan;
    private final Stray stray;

    public SmallFlyers() {
        town = new Town();
        book = new Book();
        roofs = new Roofs(town, book);
        sky = new Sky(town, book);
        hush = new Hush(town, sky, roofs);
        barring = new Bars(book, sky);
        plan = new Plan(book, sky);
        stray = new Stray(town, book);
    }

    // ---- the air

    public int air(int w, int h) {
        if (!isWithin(w, LEAST_SIDE, MOST_SIDE) || !isWithin(h, LEAST_SIDE, MOST_SIDE)) {
            return OUTSIDE;
        }
        town.lay(w, h);
        book.size = 0;
        roofs.silence();
        stray.seen = false;
        return town.cells;
    }

    public int shut(int cell, int from, int to) {
        int refusal = refuseSpan(cell, from, to, town.shutCount);
        return refusal == FINE ? town.addShut(cell, from, to) : refusal;
    }

    public int folk(int cell, int from, int to) {
        int refusal = refuseSpan(cell, from, to, town.folkCount);
        return refusal == FINE ? town.addFolk(cell, from, to) : refusal;
    }

    public int rule(int what, int v) {
        if (what == 0 && isWithin(v, 0, MOST_GLIDE)) {
            return town.changeGlide(v);
        }
        if (what == 1 && isWithin(v, 0, MOST_NEAR)) {
            return town.changeNear(v);
        }
        return OUTSIDE;
    }

    public int down(int cell, int minute) {
        int refusal = refuseCellAt(cell, minute);
        return refusal == FINE ? town.stepsDown(cell, minute) : refusal;
    }

    public int open(int cell, int minute) {
        int refusal = refuseCellAt(cell, minute);
        return refusal == FINE ? oneIf(holds(town.openIn[minute], cell)) : refusal;
    }

    // ---- asks

    public int ask(int from, int to, int earliest, int latest, int charge, int rank, int hum) {
        if (!town.hasCell(from) || !town.hasCell(to)) {
            return UNKNOWN;
        }
        if (!isMinute(earliest) || !isMinute(latest) || earliest >= latest || !isWithin(charge, 1, MOST_CHARGE)
                || !isWithin(rank, 1, MOST_RANK) || !isWithin(hum, 1, MOST_HUM)) {
            return OUTSIDE;
        }
        if (from == to) {
            return STATE;
        }
        if (book.isFull()) {
            return FULL;
        }
        Ask added = book.add();
        added.between(from, to);
        added.within(earliest, latest);
        added.like(charge, rank, hum);
        return book.size - 1;
    }

    public int about(int ask, int what) {
        if (!book.has(ask)) {
            return UNKNOWN;
        }
        Ask it = book.asks[ask];
        switch (what) {
            case 0: return it.from;
            case 1: return it.to;
            case 2: return it.earliest;
            case 3: return it.latest;
            case 4: return it.charge;
            case 5: return it.rank;
            case 6: return it.hum;
            case 7: return oneIf(it.given);
            default: return OUTSIDE;
        }
    }

    public int soonest(int ask) {
        int refusal = refuseGiven(ask);
        return refusal == FINE ? endOfSoonest(book.asks[ask]) : refusal;
    }

    public int soonestAt(int ask, int what, int i) {
        int refusal = refuseTelling(ask, what);
        if (refusal != FINE) {
            return refusal;
        }
        Ask it = book.asks[ask];
        return sky.findSoonest(it) ? it.way.tell(what, i) : NONE;
    }

    public int give(int ask) {
        int refusal = refuseGiven(ask);
        if (refusal != FINE) {
            return refusal;
        }
        Ask it = book.asks[ask];
        return giveIf(it, sky.findSoonest(it));
    }

    public int giveQuiet(int ask) {
        int refusal = refuseGiven(ask);
        if (refusal != FINE) {
            return refusal;
        }
        Ask it = book.asks[ask];
        return giveIf(it, hush.findQuietest(it));
    }

    public int take(int ask) {
        int refusal = refuseNotGiven(ask);
        if (refusal != FINE) {
            return refusal;
        }
        Ask it = book.asks[ask];
        it.given = false;
        return it.way.end;
    }

    public int where(int ask, int minute) {
        if (!book.has(ask)) {
            return UNKNOWN;
        }
        if (!isMinute(minute)) {
            return OUTSIDE;
        }
        Ask it = book.asks[ask];
        if (!it.given) {
            return STATE;
        }
        int cell = it.way.cellAt(minute);
        return cell == NOWHERE ? NONE : cell;
    }

    public int meet(int a, int b, int near) {
        if (!book.has(a) || !book.has(b)) {
            return UNKNOWN;
        }
        if (!isWithin(near, 0, MOST_NEAR)) {
            return OUTSIDE;
        }
        Ask one = book.asks[a];
        Ask other = book.asks[b];
        if (!one.given || !other.given) {
            return STATE;
        }
        return oneIf(sky.wouldMeet(one.way, other.way, near));
    }

    public int bars(int ask) {
        int refusal = refuseGiven(ask);
        if (refusal != FINE) {
            return refusal;
        }
        return barring.find(book.asks[ask]) ? barring.size : NONE;
    }

    public int bar(int ask, int i) {
        int refusal = refuseGiven(ask);
        if (refusal != FINE) {
            return refusal;
        }
        return barring.find(book.asks[ask]) ? barring.number(i) : NONE;
    }

    public int atOnce(int set) {
        int refusal = refuseSet(set);
        if (refusal != FINE) {
            return refusal;
        }
        plan.findBest(set);
        return plan.bestCost;
    }

    public int order(int set, int i) {
        int refusal = refuseSet(set);
        if (refusal != FINE) {
            return refusal;
        }
        plan.findBest(set);
        return plan.number(i);
    }

    public int giveAll(int set) {
        int refusal = refuseSet(set);
        if (refusal != FINE) {
            return refusal;
        }
        plan.findBest(set);
        return plan.carryOut();
    }

    // ---- silent ones

    public int silent(int cell, int minute, int speed) {
        int refusal = refuseCellAt(cell, minute);
        if (refusal != FINE) {
            return refusal;
        }
        if (!isWithin(speed, 0, MOST_SPEED)) {
            return OUTSIDE;
        }
        stray.see(cell, minute, speed);
        return 1;
    }

    public int could(int minute) {
        if (!isMinute(minute)) {
            return OUTSIDE;
        }
        stray.spread();
        return Long.bitCount(stray.maybeIn[minute]);
    }

    public int couldBe(int cell, int minute) {
        int refusal = refuseCellAt(cell, minute);
        if (refusal != FINE) {
            return refusal;
        }
        stray.spread();
        return oneIf(holds(stray.maybeIn[minute], cell));
    }

    public int ledOff() {
        stray.spread();
        return stray.countTouched();
    }

    public int led(int i) {
        stray.spread();
        return stray.touched(i);
    }

    public int ledAt(int ask) {
        int refusal = refuseNotGiven(ask);
        if (refusal != FINE) {
            return refusal;
        }
        stray.spread();
        return stray.firstTouch(book.asks[ask].way);
    }

    // ---- noise

    public int ears(int cell, int v) {
        if (!town.hasCell(cell)) {
            return UNKNOWN;
        }
        return isWithin(v, 0, MOST_EARS) ? roofs.listen(cell, v) : OUTSIDE;
    }

    public int noise(int cell) {
        return town.hasCell(cell) ? roofs.heardIn(cell) : UNKNOWN;
    }

    public int worst(boolean cell) {
        int loudest = roofs.loudestCell();
        return cell ? loudest : roofs.heardIn(loudest);
    }

    public int quietest(int ask) {
        int refusal = refuseGiven(ask);
        if (refusal != FINE) {
            return refusal;
        }
        Ask it = book.asks[ask];
        return hush.findQuietest(it) ? hush.growth(it) : NONE;
    }

    public int price(int ask) {
        int refusal = refuseGiven(ask);
        if (refusal != FINE) {
            return refusal;
        }
        Ask it = book.asks[ask];
        int soonEnd = endOfSoonest(it);
        return hush.findQuietest(it) ? it.way.end - soonEnd : NONE;
    }

    public int quietAt(int ask, int what, int i) {
        int refusal = refuseTelling(ask, what);
        if (refusal != FINE) {
            return refusal;
        }
        Ask it = book.asks[ask];
        return hush.findQuietest(it) ? it.way.tell(what, i) : NONE;
    }

    public int count(int what) {
        switch (what) {
            case 0: return town.cells;
            case 1: return town.shutCount;
            case 2: return town.folkCount;
            case 3: return book.size;
            case 4: return book.countGiven();
            case 5: return book.minutesGiven();
            default: return OUTSIDE;
        }
    }

    // ---- what several calls refuse or do alike

    private int refuseCellAt(int cell, int minute) {
        if (!town.hasCell(cell)) {
            return UNKNOWN;
        }
        return isMinute(minute) ? FINE : OUTSIDE;
    }

    private int refuseSpan(int cell, int from, int to, int told) {
        if (!town.hasCell(cell)) {
            return UNKNOWN;
        }
        if (!isMinute(from) || !isMinute(to) || to < from) {
            return OUTSIDE;
        }
        return told < MOST_SPANS ? FINE : FULL;
    }

    private int refuseGiven(int ask) {
        if (!book.has(ask)) {
            return UNKNOWN;
        }
        return book.asks[ask].given ? STATE : FINE;
    }

    private int refuseNotGiven(int ask) {
        if (!book.has(ask)) {
            return UNKNOWN;
        }
        return book.asks[ask].given ? FINE : STATE;
    }

    private int refuseTelling(int ask, int what) {
        if (!book.has(ask)) {
            return UNKNOWN;
        }
        if (!isWithin(what, 0, 1)) {
            return OUTSIDE;
        }
        return refuseGiven(ask);
    }

    private int refuseSet(int set) {
        if (set >>> book.size != 0 || Integer.bitCount(set) > MOST_AT_ONCE) {
            return OUTSIDE;
        }
        return (set & book.givenOnes()) == 0 ? FINE : STATE;
    }

    private int endOfSoonest(Ask ask) {
        return sky.findSoonest(ask) ? ask.way.end : NONE;
    }

    private static int giveIf(Ask ask, boolean hasWay) {
        if (!hasWay) {
            return STATE;
        }
        ask.given = true;
        return ask.way.end;
    }

    private static boolean isWithin(int v, int least, int most) {
        return v >= least && v <= most;
    }

    private static boolean isMinute(int v) {
        return isWithin(v, 0, MINUTES - 1);
    }

    private static int oneIf(boolean yes) {
        return yes ? 1 : 0;
    }

    /** Sets of cells are the bits of a long: 36 cells at most. */
    private static boolean holds(long set, int cell) {
        return (set >>> cell & 1L) != 0;
    }

    private static boolean isIn(int set, int ask) {
        return (set >>> ask & 1) != 0;
    }

    /** The cells with what is told of them for each minute. */
    private static final class Town {
        int width;
        int cells;
        int glide = 1;
        int near = 0;
        int shutCount;
        int folkCount;
        long everyCell;
        long firstColumn;
        long lastColumn;
        final int[] column = new int[MOST_CELLS];
        final int[] row = new int[MOST_CELLS];
        final long[] nearTo = new long[MOST_CELLS];
        final long[] shutIn = new long[MINUTES];
        final long[] folkIn = new long[MINUTES];
        final long[] openIn = new long[MINUTES];

        Town() {
            lay(4, 4);
        }

        void lay(int w, int h) {
            width = w;
            cells = Math.min(w * h, MOST_CELLS);
            everyCell = (1L << cells) - 1L;
            placeCells();
            shutCount = 0;
            folkCount = 0;
            for (int t = 0; t < MINUTES; t++) {
                shutIn[t] = 0L;
                folkIn[t] = 0L;
            }
            refreshNear();
            refreshOpen();
        }

        void placeCells() {
            firstColumn = 0L;
            lastColumn = 0L;
            int x = 0;
            int y = 0;
            for (int cell = 0; cell < cells; cell++) {
                column[cell] = x;
                row[cell] = y;
                if (x == 0) {
                    firstColumn |= 1L << cell;
                }
                x++;
                if (x == width) {
                    lastColumn |= 1L << cell;
                    x = 0;
                    y++;
                }
            }
        }

        boolean hasCell(int cell) {
            return cell >= 0 && cell < cells;
        }

        int addShut(int cell, int from, int to) {
            mark(shutIn, cell, from, to);
            shutCount++;
            refreshOpen();
            return shutCount;
        }

        int addFolk(int cell, int from, int to) {
            mark(folkIn, cell, from, to);
            folkCount++;
            refreshOpen();
            return folkCount;
        }

        static void mark(long[] sets, int cell, int from, int to) {
            for (int t = Math.max(from, 0); t <= to && t < MINUTES; t++) {
                sets[t] |= 1L << cell;
            }
        }

        int changeGlide(int v) {
            int was = glide;
            glide = v;
            refreshOpen();
            return was;
        }

        int changeNear(int v) {
            int was = near;
            near = v;
            refreshNear();
            return was;
        }

        void refreshNear() {
            for (int cell = 0; cell < cells; cell++) {
                long set = 0L;
                for (int other = 0; other < cells; other++) {
                    if (apart(cell, other) <= near) {
                        set |= 1L << other;
                    }
                }
                nearTo[cell] = set;
            }
        }

        void refreshOpen() {
            for (int t = 0; t < MINUTES; t++) {
                long safe = 0L;
                for (int steps = 0; steps <= glide; steps++) {
                    safe |= downBy(steps, t);
                }
                openIn[t] = safe & ~shutIn[t];
            }
        }

        /** The cells from which just so many steps, begun at a minute, end where no folk are. */
        long downBy(int steps, int minute) {
            int landing = minute + steps;
            long set = isMinute(landing) ? everyCell & ~folkIn[landing] : everyCell;
            for (int k = 0; k < steps; k++) {
                set = besideOf(set);
            }
            return set;
        }

        int stepsDown(int cell, int minute) {
            for (int steps = 0; steps <= glide; steps++) {
                if (holds(downBy(steps, minute), cell)) {
                    return steps;
                }
            }
            return NONE;
        }

        long besideOf(long set) {
            long moved = (set & ~lastColumn) << 1
                    | set << width
                    | (set & ~firstColumn) >>> 1
                    | set >>> width;
            return moved & everyCell;
        }

        int stepFrom(int cell, int step) {
            if (cell < 0 || cell >= cells) {
                return NOWHERE;
            }
            switch (step) {
                case 0: return column[cell] + 1 < width ? cell + 1 : NOWHERE;
                case 1: return cell + width < cells ? cell + width : NOWHERE;
                case 2: return column[cell] > 0 ? cell - 1 : NOWHERE;
                case 3: return cell - width >= 0 ? cell - width : NOWHERE;
                default: return cell;
            }
        }

        /** The greater of the differences of x and of y. */
        int apart(int one, int other) {
            if (!hasCell(one) || !hasCell(other)) {
                return FAR;
            }
            return Math.max(Math.abs(column[one] - column[other]), Math.abs(row[one] - row[other]));
        }
    }

    /** Cells and steps from a minute to a minute. */
    private static final class Way {
        int start;
        int end;
        final int[] cells = new int[MOST_CHARGE + 1];
        final int[] steps = new int[MOST_CHARGE];

        int length() {
            return end - start;
        }

        int cellAt(int minute) {
            int k = minute - start;
            return minute <= end && k >= 0 && k < cells.length ? cells[k] : NOWHERE;
        }

        /** The step from a minute to the next; behind the last one it stays. */
        int stepAt(int minute) {
            int k = minute - start;
            return minute < end && k >= 0 && k < steps.length ? steps[k] : STAYS;
        }

        void begin(int minute, int cell) {
            start = minute;
            end = minute;
            cells[0] = cell;
        }

        void goOn(int step, int cell) {
            int k = length();
            if (k >= 0 && k < steps.length) {
                steps[k] = step;
                cells[k + 1] = cell;
                end++;
            }
        }

        int tell(int what, int i) {
            if (what == 0) {
                return start;
            }
            return i >= 0 && i < length() && i < steps.length ? steps[i] : NONE;
        }
    }

    /** An ask; while it is not given its way is room for looking one up. */
    private static final class Ask {
        int from;
        int to;
        int earliest;
        int latest;
        int charge;
        int rank;
        int hum;
        boolean given;
        final Way way = new Way();

        void between(int fromCell, int toCell) {
            from = fromCell;
            to = toCell;
            given = false;
        }

        void within(int first, int last) {
            earliest = first;
            latest = last;
        }

        void like(int mostMinutes, int itsRank, int itsHum) {
            charge = mostMinutes;
            rank = itsRank;
            hum = itsHum;
        }
    }

    /** All asks by their numbers. */
    private static final class Book {
        int size;
        final Ask[] asks = new Ask[MOST_ASKS];

        Book() {
            for (int n = 0; n < MOST_ASKS; n++) {
                asks[n] = new Ask();
            }
        }

        boolean has(int n) {
            return n >= 0 && n < size;
        }

        boolean isFull() {
            return size >= MOST_ASKS;
        }

        Ask add() {
            Ask next = asks[Math.min(size, MOST_ASKS - 1)];
            size = Math.min(size + 1, MOST_ASKS);
            return next;
        }

        int givenOnes() {
            int set = 0;
            for (int n = 0; n < size; n++) {
                if (asks[n].given) {
                    set |= 1 << n;
                }
            }
            return set;
        }

        int countGiven() {
            return Integer.bitCount(givenOnes());
        }

        int minutesGiven() {
            int sum = 0;
            for (int n = 0; n < size; n++) {
                if (asks[n].given) {
                    sum += asks[n].way.length();
                }
            }
            return sum;
        }
    }

    /** What is free for one ask beside those that are given, and the soonest way through it. */
    private static final class Sky {
        final Town town;
        final Book book;
        final long[] free = new long[MINUTES];
        /** For each step the cells from which it would change cells with a given one, by minutes. */
        final long[][] barred = new long[SIDES][MINUTES];
        /** The cells from which the end is reached, by minutes. */
        final long[] leads = new long[MINUTES];
        int start;
        int end;

        Sky(Town itsTown, Book itsBook) {
            town = itsTown;
            book = itsBook;
        }

        boolean wouldMeet(Way one, Way other, int near) {
            int last = Math.min(one.end, other.end);
            for (int t = Math.max(one.start, other.start); t <= last && t < MINUTES; t++) {
                if (town.apart(one.cellAt(t), other.cellAt(t)) <= near) {
                    return true;
                }
                if (t < last && one.cellAt(t) == other.cellAt(t + 1) && one.cellAt(t + 1) == other.cellAt(t)) {
                    return true;
                }
            }
            return false;
        }

        /** Looks up what is free for an ask, as if some of the given ones were not. */
        void clearFor(Ask ask, int without) {
            for (int t = Math.max(ask.earliest, 0); t <= ask.latest && t < MINUTES; t++) {
                free[t] = town.openIn[t];
                for (int step = 0; step < SIDES; step++) {
                    barred[step][t] = 0L;
                }
            }
            for (int n = 0; n < book.size; n++) {
                if (book.asks[n].given && !isIn(without, n)) {
                    keepApart(book.asks[n].way, ask);
                }
            }
        }

        void keepApart(Way way, Ask ask) {
            int last = Math.min(way.end, ask.latest);
            for (int t = Math.max(way.start, ask.earliest); t <= last && t < MINUTES; t++) {
                int cell = way.cellAt(t);
                if (town.hasCell(cell)) {
                    free[t] &= ~town.nearTo[cell];
                }
                int step = way.stepAt(t);
                int next = way.cellAt(t + 1);
                if (step < SIDES && next != NOWHERE) {
                    barred[against(step)][t] |= 1L << next;
                }
            }
        }

        static int against(int step) {
            return step ^ 2;
        }

        boolean isAllowed(int step, int cell, int minute) {
            return step >= SIDES || (barred[step][minute] >>> cell & 1L) == 0;
        }

        /** Where it can come to from a set of cells by the next minute. */
        long ahead(long set, int minute) {
            long next = set
                    | (set & ~town.lastColumn & ~barred[0][minute]) << 1
                    | (set & ~barred[1][minute]) << town.width
                    | (set & ~town.firstColumn & ~barred[2][minute]) >>> 1
                    | (set & ~barred[3][minute]) >>> town.width;
            return next & free[minute + 1];
        }

        /** From where it can come at a minute into a set of cells by the next one. */
        long behind(long set, int minute) {
            long before = set
                    | (set & ~town.firstColumn) >>> 1 & ~barred[0][minute]
                    | set >>> town.width & ~barred[1][minute]
                    | (set & ~town.lastColumn) << 1 & ~barred[2][minute]
                    | set << town.width & ~barred[3][minute];
            return before & free[minute];
        }

        boolean findSoonest(Ask ask) {
            clearFor(ask, 0);
            if (!findEnd(ask)) {
                return false;
            }
            follow(ask);
            return true;
        }

        boolean hasWayWithout(Ask ask, int without) {
            clearFor(ask, without);
            return findEnd(ask);
        }

        boolean findEnd(Ask ask) {
            long reached = 0L;
            for (int t = ask.earliest; t <= ask.latest && t < MINUTES; t++) {
                if (t > ask.earliest) {
                    reached = ahead(reached, t - 1);
                }
                if (holds(reached, ask.to) && findStart(ask, t)) {
                    return true;
                }
                reached |= 1L << ask.from & free[t];
            }
            return false;
        }

        boolean findStart(Ask ask, int minute) {
            int first = Math.max(ask.earliest, minute - ask.charge);
            leads[minute] = 1L << ask.to & free[minute];
            for (int t = minute - 1; t >= first; t--) {
                leads[t] = behind(leads[t + 1], t);
                if (holds(leads[t], ask.from)) {
                    start = t;
                    end = minute;
                    return true;
                }
            }
            return false;
        }

        void follow(Ask ask) {
            int cell = ask.from;
            ask.way.begin(start, cell);
            for (int t = start; t < end; t++) {
                int step = firstStep(cell, t);
                cell = town.stepFrom(cell, step);
                ask.way.goOn(step, cell);
            }
        }

        int firstStep(int cell, int minute) {
            for (int step = 0; step < STAYS; step++) {
                int next = town.stepFrom(cell, step);
                if (next != NOWHERE && holds(leads[minute + 1], next) && isAllowed(step, cell, minute)) {
                    return step;
                }
            }
            return STAYS;
        }
    }

    /** The fewest given ones to take back. */
    private static final class Bars {
        final Book book;
        final Sky sky;
        int size;
        final int[] numbers = new int[MOST_ASKS];
        final int[] given = new int[MOST_ASKS];

        Bars(Book itsBook, Sky itsSky) {
            book = itsBook;
            sky = itsSky;
        }

        int number(int i) {
            return i >= 0 && i < size && i < MOST_ASKS ? numbers[i] : NONE;
        }

        boolean find(Ask ask) {
            size = 0;
            int all = book.givenOnes();
            if (!sky.hasWayWithout(ask, all)) {
                return false;
            }
            int many = listGiven(all);
            for (int few = 0; few <= many; few++) {
                int set = firstOfSize(ask, few, many);
                if (set != NOWHERE) {
                    keep(set);
                    return true;
                }
            }
            return false;
        }

        int listGiven(int all) {
            int many = 0;
            for (int n = 0; n < MOST_ASKS; n++) {
                if (isIn(all, n)) {
                    given[many] = n;
                    many++;
                }
            }
            return many;
        }

        /** The least number has the highest bit, so of as many the first by numbers has the greatest code. */
        int firstOfSize(Ask ask, int few, int many) {
            for (int code = (1 << many) - 1; code >= 0; code--) {
                if (Integer.bitCount(code) == few) {
                    int set = decoded(code, many);
                    if (sky.hasWayWithout(ask, set)) {
                        return set;
                    }
                }
            }
            return NOWHERE;
        }

        int decoded(int code, int many) {
            int set = 0;
            for (int k = 0; k < many && k < MOST_ASKS; k++) {
                if (isIn(code, many - 1 - k)) {
                    set |= 1 << given[k];
                }
            }
            return set;
        }

        void keep(int set) {
            for (int n = 0; n < MOST_ASKS; n++) {
                if (isIn(set, n)) {
                    numbers[size] = n;
                    size++;
                }
            }
        }
    }

    /** Several asks at once: the best order. */
    private static final class Plan {
        final Book book;
        final Sky sky;
        int size;
        int bestCost;
        final int[] tried = new int[MOST_AT_ONCE];
        final int[] best = new int[MOST_AT_ONCE];
        /** What each ask costs, if it comes first: it never costs less behind others. */
        final int[] alone = new int[MOST_ASKS];

        Plan(Book itsBook, Sky itsSky) {
            book = itsBook;
            sky = itsSky;
        }

        int number(int i) {
            return i >= 0 && i < size && i < MOST_AT_ONCE ? best[i] : NONE;
        }

        void findBest(int set) {
            size = Integer.bitCount(set);
            bestCost = FAR;
            for (int n = 0; n < book.size; n++) {
                if (isIn(set, n)) {
                    alone[n] = giveNext(n);
                    book.asks[n].given = false;
                }
            }
            tryFrom(this, 0, 0, set);
        }

        /** Orders are tried first by asks, so of like ones the first is kept. */
        private static void tryFrom(Plan plan, int place, int cost, int left) {
            if (plan.leastCost(cost, left) >= plan.bestCost) {
                return;
            }
            if (left == 0) {
                plan.keep(cost);
                return;
            }
            if (place >= MOST_AT_ONCE) {
                return;
            }
            for (int n = 0; n < plan.book.size; n++) {
                if (isIn(left, n)) {
                    plan.tried[place] = n;
                    int more = plan.giveNext(n);
                    tryFrom(plan, place + 1, cost + more, left & ~(1 << n));
                    plan.book.asks[n].given = false;
                }
            }
        }

        int leastCost(int cost, int left) {
            int sum = cost;
            for (int n = 0; n < book.size; n++) {
                if (isIn(left, n)) {
                    sum += alone[n];
                }
            }
            return sum;
        }

        void keep(int cost) {
            bestCost = cost;
            for (int place = 0; place < size && place < MOST_AT_ONCE; place++) {
                best[place] = tried[place];
            }
        }

        /** Gives an ask its soonest, if it has one: what it costs. */
        int giveNext(int n) {
            Ask ask = book.asks[n];
            ask.given = sky.findSoonest(ask);
            return ask.rank * (ask.given ? ask.way.end - ask.earliest : LEFT_OUT);
        }

        int carryOut() {
            int many = 0;
            for (int place = 0; place < size && place < MOST_AT_ONCE; place++) {
                giveNext(best[place]);
                if (book.asks[best[place]].given) {
                    many++;
                }
            }
            return many;
        }
    }

    /** A silent one, and where it could be. */
    private static final class Stray {
        final Town town;
        final Book book;
        boolean seen;
        int cell;
        int minute;
        int speed;
        final long[] maybeIn = new long[MINUTES];

        Stray(Town itsTown, Book itsBook) {
            town = itsTown;
            book = itsBook;
        }

        void see(int itsCell, int itsMinute, int itsSpeed) {
            seen = true;
            cell = itsCell;
            minute = itsMinute;
            speed = itsSpeed;
        }

        void spread() {
            long set = 0L;
            for (int t = 0; t < MINUTES; t++) {
                if (seen && t == minute) {
                    set = 1L << cell;
                } else {
                    set = spreadInto(set, t);
                }
                maybeIn[t] = set;
            }
        }

        long spreadInto(long set, int t) {
            long wider = set;
            for (int step = 0; step < speed; step++) {
                wider |= town.besideOf(wider) & ~town.shutIn[t];
            }
            return wider;
        }

        int firstTouch(Way way) {
            for (int t = Math.max(way.start, 0); t <= way.end && t < MINUTES; t++) {
                if (holds(maybeIn[t], way.cellAt(t))) {
                    return t;
                }
            }
            return NONE;
        }

        boolean touches(int n) {
            return book.asks[n].given && firstTouch(book.asks[n].way) != NONE;
        }

        int countTouched() {
            int many = 0;
            for (int n = 0; n < book.size; n++) {
                if (touches(n)) {
                    many++;
                }
            }
            return many;
        }

        int touched(int i) {
            int before = 0;
            for (int n = 0; n < book.size; n++) {
                if (touches(n)) {
                    if (before == i) {
                        return n;
                    }
                    before++;
                }
            }
            return NONE;
        }
    }

    /** Ears below the roofs, and what they hear. */
    private static final class Roofs {
        final Town town;
        final Book book;
        final int[] hearing = new int[MOST_CELLS];

        Roofs(Town itsTown, Book itsBook) {
            town = itsTown;
            book = itsBook;
        }

        void silence() {
            for (int cell = 0; cell < MOST_CELLS; cell++) {
                hearing[cell] = 0;
            }
        }

        int listen(int cell, int v) {
            int was = hearing[cell];
            hearing[cell] = v;
            return was;
        }

        int sound(int source, int cell) {
            if (source == cell) {
                return 4;
            }
            if (town.apart(source, cell) != 1) {
                return 0;
            }
            return town.column[source] == town.column[cell] || town.row[source] == town.row[cell] ? 2 : 1;
        }

        /** What all cells hear of a minute in a cell, of a way that hums by one. */
        int heardFrom(int source) {
            int sum = 0;
            for (int cell = 0; cell < town.cells; cell++) {
                sum += sound(source, cell) * hearing[cell];
            }
            return sum;
        }

        int heardIn(int cell) {
            int sum = 0;
            for (int n = 0; n < book.size; n++) {
                if (book.asks[n].given) {
                    sum += soundOf(book.asks[n].way, cell) * book.asks[n].hum;
                }
            }
            return sum * hearing[cell];
        }

        int soundOf(Way way, int cell) {
            int sum = 0;
            for (int t = way.start; t <= way.end && t < MINUTES; t++) {
                sum += sound(way.cellAt(t), cell);
            }
            return sum;
        }

        int loudestCell() {
            int loudest = 0;
            int most = heardIn(0);
            for (int cell = 1; cell < town.cells; cell++) {
                int heard = heardIn(cell);
                if (heard > most) {
                    most = heard;
                    loudest = cell;
                }
            }
            return loudest;
        }
    }

    /** The quietest way through what the sky leaves free. */
    private static final class Hush {
        final Town town;
        final Sky sky;
        final Roofs roofs;
        /** What a minute in each cell costs; the hum is the same for all ways of an ask. */
        final int[] minuteIn = new int[MOST_CELLS];
        /** By minutes before the end: the least that it costs from each cell to the end. */
        final int[][] costs = new int[MOST_CHARGE + 1][MOST_CELLS];
        int least;
        int start;
        int end;

        Hush(Town itsTown, Sky itsSky, Roofs itsRoofs) {
            town = itsTown;
            sky = itsSky;
            roofs = itsRoofs;
        }

        int growth(Ask ask) {
            return least * ask.hum;
        }

        boolean findQuietest(Ask ask) {
            sky.clearFor(ask, 0);
            for (int cell = 0; cell < town.cells; cell++) {
                minuteIn[cell] = roofs.heardFrom(cell);
            }
            least = FAR;
            for (int t = ask.earliest + 1; t <= ask.latest && t < MINUTES; t++) {
                lookBack(ask, t);
            }
            if (least == FAR) {
                return false;
            }
            follow(ask);
            return true;
        }

        /** Ends come from the first, starts from the last: so only what is less is better. */
        void lookBack(Ask ask, int last) {
            if (!beginAt(ask.to, last)) {
                return;
            }
            int first = Math.max(ask.earliest, last - ask.charge);
            for (int t = last - 1; t >= first; t--) {
                if (!stepBack(t, last - t, least)) {
                    return;
                }
                int cost = costs[last - t][ask.from];
                if (cost < least) {
                    least = cost;
                    start = t;
                    end = last;
                }
            }
        }

        boolean beginAt(int to, int last) {
            if (!holds(sky.free[last], to)) {
                return false;
            }
            for (int cell = 0; cell < town.cells; cell++) {
                costs[0][cell] = cell == to ? minuteIn[to] : FAR;
            }
            return true;
        }

        /** Fills the costs for a minute, those below a limit: whether there are any. */
        boolean stepBack(int minute, int before, int limit) {
            if (before < 1 || before > MOST_CHARGE) {
                return false;
            }
            boolean any = false;
            for (int cell = 0; cell < town.cells; cell++) {
                int cost = FAR;
                if (holds(sky.free[minute], cell)) {
                    cost = leastNext(cell, minute, costs[before - 1]);
                }
                if (cost < FAR) {
                    cost += minuteIn[cell];
                }
                costs[before][cell] = cost < limit ? cost : FAR;
                any = any || cost < limit;
            }
            return any;
        }

        int leastNext(int cell, int minute, int[] nextCosts) {
            int cost = FAR;
            for (int step = 0; step <= STAYS; step++) {
                int next = town.stepFrom(cell, step);
                if (next != NOWHERE && nextCosts[next] < cost && sky.isAllowed(step, cell, minute)) {
                    cost = nextCosts[next];
                }
            }
            return cost;
        }

        void follow(Ask ask) {
            if (!beginAt(ask.to, end)) {
                return;
            }
            for (int t = end - 1; t >= start; t--) {
                stepBack(t, end - t, FAR);
            }
            int cell = ask.from;
            ask.way.begin(start, cell);
            for (int t = start; t < end; t++) {
                int step = firstStep(cell, t);
                cell = town.stepFrom(cell, step);
                ask.way.goOn(step, cell);
            }
        }

        int firstStep(int cell, int minute) {
            int left = end - minute;
            if (left < 1 || left > MOST_CHARGE) {
                return STAYS;
            }
            int wanted = costs[left][cell] - minuteIn[cell];
            for (int step = 0; step < STAYS; step++) {
                int next = town.stepFrom(cell, step);
                if (next != NOWHERE && costs[left - 1][next] == wanted && sky.isAllowed(step, cell, minute)) {
                    return step;
                }
            }
            return STAYS;
        }
    }
}
