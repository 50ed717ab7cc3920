/** Each promise by hand: ordinary inputs, the edges that the document names, wrong inputs. */
public final class PromisesTest {
    private static final int UNKNOWN = SmallFlyers.UNKNOWN;
    private static final int OUTSIDE = SmallFlyers.OUTSIDE;
    private static final int STATE = SmallFlyers.STATE;
    private static final int FULL = SmallFlyers.FULL;
    private static final int NONE = SmallFlyers.NONE;
    private static final Checks C = new Checks("PromisesTest");

    private static void due(String what, int got, int want) {
        C.due(what, got, want);
    }

    private static void p01NewObject() {
        SmallFlyers x = new SmallFlyers();
        int[] counts = {16, 0, 0, 0, 0, 0};
        for (int what = 0; what < counts.length; what++) {
            due("1: count " + what, x.count(what), counts[what]);
        }
        due("1: no ears", x.ears(15, 0), 0);
        due("1: none seen", x.could(59), 0);
        due("1: 4 by 4", x.open(15, 0), 1);
        due("1: 4 by 4", x.open(16, 0), UNKNOWN);
        due("1: GLIDE", x.rule(0, 1), 1);
        due("1: NEAR", x.rule(1, 0), 0);
    }

    private static void p02Air() {
        SmallFlyers x = new SmallFlyers();
        due("2: w", x.air(1, 2), OUTSIDE);
        due("2: w", x.air(7, 2), OUTSIDE);
        due("2: h", x.air(2, 1), OUTSIDE);
        due("2: h", x.air(2, 7), OUTSIDE);
        due("2: least", x.air(2, 2), 4);
        due("2: most", x.air(6, 6), 36);
        due("2: wide", x.air(6, 2), 12);
        due("2: side by side, not over the edge", x.ask(5, 6, 0, 1, 1, 1, 1), 0);
        due("2: side by side, not over the edge", x.soonest(0), NONE);
        due("2: GLIDE", x.rule(0, 3), 1);
        due("2: NEAR", x.rule(1, 2), 0);
        x.shut(0, 0, 59);
        x.folk(1, 0, 59);
        x.ears(2, 7);
        x.silent(3, 0, 0);
        due("2: a way", x.ask(3, 9, 0, 9, 9, 1, 1), 1);
        due("2: a way", x.give(1), 1);
        due("2: refused", x.air(6, 9), OUTSIDE);
        due("2: refused changes nothing", x.count(4), 1);
        due("2: anew", x.air(3, 6), 18);
        for (int what = 1; what <= 5; what++) {
            due("2: nothing told " + what, x.count(what), 0);
        }
        due("2: ears", x.ears(2, 0), 0);
        due("2: silent", x.could(3), 0);
        due("2: shut", x.open(0, 0), 1);
        due("2: folk", x.down(1, 0), 0);
        due("2: asks", x.about(0, 0), UNKNOWN);
        due("2: an ask is not given", x.ask(0, 1, 0, 9, 9, 1, 1), 0);
        due("2: an ask is not given", x.about(0, 7), 0);
        due("2: GLIDE stays", x.rule(0, 1), 3);
        due("2: NEAR stays", x.rule(1, 0), 2);
    }

    private static void p03Shut() {
        SmallFlyers x = new SmallFlyers();
        due("3: one", x.shut(5, 3, 4), 1);
        due("3: before", x.open(5, 2), 1);
        due("3: from", x.open(5, 3), 0);
        due("3: to", x.open(5, 4), 0);
        due("3: behind", x.open(5, 5), 1);
        due("3: other", x.open(6, 3), 1);
        due("3: cell", x.shut(16, 70, 60), UNKNOWN);
        due("3: cell", x.shut(-1, 0, 1), UNKNOWN);
        due("3: minutes", x.shut(0, -1, 1), OUTSIDE);
        due("3: minutes", x.shut(0, 2, 60), OUTSIDE);
        due("3: minutes", x.shut(0, 2, 1), OUTSIDE);
        due("3: one minute", x.shut(0, 59, 59), 2);
        due("3: like another", x.shut(0, 59, 59), 3);
        for (int k = 4; k <= 20; k++) {
            due("3: many", x.shut(1, 0, 0), k);
        }
        due("3: full", x.shut(2, 0, 0), FULL);
        due("3: wrong ahead of full", x.shut(2, 1, 0), OUTSIDE);
        due("3: unknown ahead of full", x.shut(16, 1, 0), UNKNOWN);
        due("3: full changes nothing", x.open(2, 0), 1);
        due("3: count", x.count(1), 20);
        due("3: folk have their own room", x.folk(2, 0, 0), 1);
    }

    private static void p04Folk() {
        SmallFlyers x = new SmallFlyers();
        x.rule(0, 0);
        due("4: one", x.folk(5, 3, 4), 1);
        due("4: before", x.open(5, 2), 1);
        due("4: from", x.open(5, 3), 0);
        due("4: to", x.open(5, 4), 0);
        due("4: behind", x.open(5, 5), 1);
        due("4: cell", x.folk(16, 0, 1), UNKNOWN);
        due("4: minutes", x.folk(0, -1, 1), OUTSIDE);
        due("4: minutes", x.folk(0, 0, 60), OUTSIDE);
        due("4: minutes", x.folk(0, 5, 4), OUTSIDE);
        for (int k = 2; k <= 20; k++) {
            due("4: many", x.folk(1, 0, 0), k);
        }
        due("4: full", x.folk(2, 0, 0), FULL);
        due("4: wrong ahead of full", x.folk(2, 60, 0), OUTSIDE);
        due("4: full changes nothing", x.open(2, 0), 1);
        due("4: count", x.count(2), 20);
    }

    private static void p05Rule() {
        SmallFlyers x = new SmallFlyers();
        due("5: GLIDE", x.rule(0, 4), 1);
        due("5: GLIDE", x.rule(0, 0), 4);
        due("5: GLIDE", x.rule(0, 5), OUTSIDE);
        due("5: GLIDE", x.rule(0, -1), OUTSIDE);
        due("5: GLIDE", x.rule(0, 1), 0);
        due("5: NEAR", x.rule(1, 3), 0);
        due("5: NEAR", x.rule(1, 4), OUTSIDE);
        due("5: NEAR", x.rule(1, -1), OUTSIDE);
        due("5: NEAR", x.rule(1, 0), 3);
        due("5: what", x.rule(2, 0), OUTSIDE);
        due("5: what", x.rule(-1, 0), OUTSIDE);
    }

    /** Folk in every cell of 2 by 3 but the last, and in the last until minute 9. */
    private static void p06Down() {
        SmallFlyers x = new SmallFlyers();
        x.air(2, 3);
        for (int c = 0; c < 5; c++) {
            x.folk(c, 0, 59);
        }
        x.folk(5, 0, 9);
        due("6: there and then", x.down(5, 10), 0);
        due("6: too early", x.down(5, 9), NONE);
        due("6: the minute when it comes", x.down(4, 9), 1);
        due("6: the minute when it comes", x.down(4, 8), NONE);
        x.rule(0, 2);
        due("6: out and back", x.down(5, 8), 2);
        due("6: each step goes on, none stays", x.down(4, 8), NONE);
        due("6: out and back from the last minute", x.down(5, 9), 2);
        due("6: two", x.down(2, 8), 2);
        x.rule(0, 4);
        due("6: three", x.down(4, 8), 3);
        due("6: four", x.down(2, 6), 4);
        due("6: four", x.down(2, 5), NONE);
        due("6: shortest", x.down(0, 20), 3);
        due("6: behind 59 there are no folk", x.down(0, 57), 3);
        due("6: behind 59 there are no folk", x.down(0, 58), 2);
        due("6: behind 59 there are no folk", x.down(0, 59), 1);
        x.shut(5, 0, 59);
        due("6: whatever is shut", x.down(5, 10), 0);
        due("6: cell", x.down(6, 60), UNKNOWN);
        due("6: minute", x.down(5, 60), OUTSIDE);
        due("6: minute", x.down(5, -1), OUTSIDE);
        x.rule(0, 0);
        due("6: no glide", x.down(4, 20), NONE);
        due("6: no glide", x.down(5, 20), 0);
    }

    private static void p07Open() {
        SmallFlyers x = new SmallFlyers();
        x.air(2, 2);
        x.folk(0, 10, 20);
        x.folk(1, 10, 20);
        x.folk(2, 10, 20);
        x.shut(3, 5, 5);
        due("7: a way down", x.open(1, 15), 1);
        due("7: none", x.open(0, 15), 0);
        due("7: none at the last minute", x.open(0, 20), 1);
        due("7: none at the last but one", x.open(0, 19), 0);
        due("7: shut", x.open(3, 5), 0);
        due("7: not shut", x.open(3, 6), 1);
        due("7: cell", x.open(4, 0), UNKNOWN);
        due("7: cell", x.open(-1, 60), UNKNOWN);
        due("7: minute", x.open(0, 60), OUTSIDE);
        due("7: minute", x.open(0, -1), OUTSIDE);
        x.rule(0, 2);
        due("7: more glide", x.open(0, 15), 1);
        x.rule(0, 0);
        due("7: less glide", x.open(1, 15), 0);
    }

    private static void p08Ask() {
        SmallFlyers x = new SmallFlyers();
        due("8: from", x.ask(16, 16, 9, 9, 0, 0, 0), UNKNOWN);
        due("8: to", x.ask(0, -1, 0, 1, 1, 1, 1), UNKNOWN);
        due("8: earliest", x.ask(0, 1, -1, 1, 1, 1, 1), OUTSIDE);
        due("8: latest", x.ask(0, 1, 0, 60, 1, 1, 1), OUTSIDE);
        due("8: earliest less", x.ask(0, 1, 5, 5, 1, 1, 1), OUTSIDE);
        due("8: charge", x.ask(0, 1, 0, 1, 0, 1, 1), OUTSIDE);
        due("8: charge", x.ask(0, 1, 0, 1, 31, 1, 1), OUTSIDE);
        due("8: rank", x.ask(0, 1, 0, 1, 1, 0, 1), OUTSIDE);
        due("8: rank", x.ask(0, 1, 0, 1, 1, 10, 1), OUTSIDE);
        due("8: hum", x.ask(0, 1, 0, 1, 1, 1, 0), OUTSIDE);
        due("8: hum", x.ask(0, 1, 0, 1, 1, 1, 10), OUTSIDE);
        due("8: outside ahead of state", x.ask(1, 1, 0, 1, 1, 1, 10), OUTSIDE);
        due("8: one cell", x.ask(1, 1, 0, 1, 1, 1, 1), STATE);
        due("8: none yet", x.count(3), 0);
        for (int k = 0; k < 10; k++) {
            due("8: number", x.ask(0, 15, 58, 59, 30, 9, 9), k);
        }
        due("8: full", x.ask(0, 15, 58, 59, 30, 9, 9), FULL);
        due("8: state ahead of full", x.ask(3, 3, 58, 59, 30, 9, 9), STATE);
        due("8: ten", x.count(3), 10);
    }

    private static void p09About() {
        SmallFlyers x = new SmallFlyers();
        due("9: none", x.about(0, 0), UNKNOWN);
        x.ask(3, 12, 4, 40, 20, 8, 7);
        int[] told = {3, 12, 4, 40, 20, 8, 7, 0};
        for (int what = 0; what < told.length; what++) {
            due("9: " + what, x.about(0, what), told[what]);
        }
        due("9: what", x.about(0, 8), OUTSIDE);
        due("9: what", x.about(0, -1), OUTSIDE);
        due("9: ask", x.about(1, 9), UNKNOWN);
        due("9: ask", x.about(-1, 0), UNKNOWN);
        x.give(0);
        due("9: given", x.about(0, 7), 1);
        x.take(0);
        due("9: taken", x.about(0, 7), 0);
    }

    private static void p10Soonest() {
        SmallFlyers x = new SmallFlyers();
        x.ask(0, 3, 5, 9, 3, 1, 1);
        due("10: e", x.soonest(0), 8);
        x.shut(3, 0, 8);
        due("10: the last minute", x.soonest(0), 9);
        x.shut(3, 9, 9);
        due("10: none", x.soonest(0), NONE);
        due("10: ask", x.soonest(1), UNKNOWN);
        due("10: ask", x.soonest(-1), UNKNOWN);
        x.ask(0, 3, 5, 59, 2, 1, 1);
        due("10: charge", x.soonest(1), NONE);
        x.ask(0, 3, 5, 7, 9, 1, 1);
        due("10: latest", x.soonest(2), NONE);
        x.ask(0, 2, 5, 59, 2, 1, 1);
        due("10: just the charge", x.soonest(3), 7);
        x.shut(0, 0, 20);
        due("10: from is open at b", x.soonest(3), 23);
        x.give(3);
        due("10: given", x.soonest(3), STATE);
        waitsForCharge();
    }

    /** Between 0 and 2 of 3 by 2 lies a gate that opens at minute 10: the charge does not last from the first minute. */
    private static void waitsForCharge() {
        SmallFlyers x = new SmallFlyers();
        x.air(3, 2);
        x.shut(1, 0, 9);
        x.shut(4, 0, 9);
        x.ask(0, 2, 0, 59, 2, 1, 1);
        due("10: waits below", x.soonest(0), 11);
        due("10: greatest b", x.soonestAt(0, 0, 0), 9);
        x.shut(0, 9, 9);
        due("10: comes later", x.soonest(0), 12);
        due("10: b", x.soonestAt(0, 0, 0), 10);
    }

    private static void p11SoonestAt() {
        SmallFlyers x = new SmallFlyers();
        x.air(3, 3);
        x.ask(8, 0, 4, 20, 9, 1, 1);
        due("11: b", x.soonestAt(0, 0, 77), 4);
        int[] steps = {2, 2, 3, 3};
        for (int i = 0; i < steps.length; i++) {
            due("11: step " + i, x.soonestAt(0, 1, i), steps[i]);
        }
        due("11: no such", x.soonestAt(0, 1, 4), NONE);
        due("11: no such", x.soonestAt(0, 1, -1), NONE);
        due("11: what", x.soonestAt(0, 2, 0), OUTSIDE);
        due("11: what", x.soonestAt(0, -1, 0), OUTSIDE);
        due("11: ask", x.soonestAt(1, 2, 0), UNKNOWN);
        x.give(0);
        due("11: state", x.soonestAt(0, 1, 0), STATE);
        due("11: outside ahead of state", x.soonestAt(0, 2, 0), OUTSIDE);
        x.ask(0, 8, 30, 31, 9, 1, 1);
        due("11: none", x.soonestAt(1, 0, 0), NONE);
        due("11: none", x.soonestAt(1, 1, 0), NONE);
        staysOnTheWay();
        changesNoCells();
    }

    /** A row of gates: 1 is open at minute 3 alone, 2 at minute 5 alone: it stays where it must. */
    private static void staysOnTheWay() {
        SmallFlyers x = new SmallFlyers();
        x.air(4, 2);
        for (int c = 4; c < 8; c++) {
            x.shut(c, 0, 59);
        }
        x.shut(1, 0, 2);
        x.shut(1, 6, 59);
        x.shut(2, 0, 4);
        x.shut(2, 6, 59);
        x.ask(0, 3, 0, 20, 9, 1, 1);
        due("11: e", x.soonest(0), 6);
        due("11: greatest b", x.soonestAt(0, 0, 0), 3);
        due("11: then on", x.soonestAt(0, 1, 0), 0);
        x.shut(0, 3, 59);
        due("11: e", x.soonest(0), 6);
        due("11: b", x.soonestAt(0, 0, 0), 2);
        int[] steps = {0, 4, 0, 0};
        for (int i = 0; i < steps.length; i++) {
            due("11: step " + i, x.soonestAt(0, 1, i), steps[i]);
        }
    }

    /** In 2 by 2 with the other row shut, one goes 0 to 1; the other cannot go 1 to 0 at the same minute. */
    private static void changesNoCells() {
        SmallFlyers x = new SmallFlyers();
        x.air(2, 2);
        x.shut(2, 0, 59);
        x.shut(3, 0, 59);
        x.ask(0, 1, 0, 9, 9, 1, 1);
        x.ask(1, 0, 0, 1, 9, 1, 1);
        x.ask(1, 0, 0, 3, 9, 1, 1);
        x.give(0);
        due("11: no change of cells", x.soonest(1), NONE);
        due("11: barred", x.bars(1), 1);
        due("11: later", x.soonest(2), 3);
        due("11: later", x.soonestAt(2, 0, 0), 2);
    }

    private static void p12Give() {
        SmallFlyers x = new SmallFlyers();
        x.ask(0, 1, 2, 9, 9, 1, 1);
        due("12: ask", x.give(1), UNKNOWN);
        due("12: ask", x.give(-1), UNKNOWN);
        due("12: e", x.give(0), 3);
        due("12: given", x.give(0), STATE);
        x.ask(0, 1, 2, 3, 9, 1, 1);
        due("12: there is none", x.give(1), STATE);
        due("12: still not", x.about(1, 7), 0);
        x.shut(1, 0, 59);
        due("12: stays given", x.where(0, 3), 1);
        due("12: number", x.count(4), 1);
    }

    private static void p13GiveQuiet() {
        SmallFlyers x = new SmallFlyers();
        x.air(3, 3);
        x.ears(1, 9);
        x.ask(0, 2, 0, 20, 9, 1, 1);
        due("13: ask", x.giveQuiet(1), UNKNOWN);
        due("13: e", x.giveQuiet(0), 6);
        due("13: round about", x.where(0, 3), 7);
        due("13: noise", x.noise(1), 54);
        due("13: given", x.giveQuiet(0), STATE);
        x.ask(0, 2, 0, 1, 9, 1, 1);
        due("13: there is none", x.giveQuiet(1), STATE);
        due("13: still not", x.about(1, 7), 0);
    }

    private static void p14Take() {
        SmallFlyers x = new SmallFlyers();
        due("14: ask", x.take(0), UNKNOWN);
        x.ask(0, 5, 2, 9, 9, 1, 1);
        due("14: not given", x.take(0), STATE);
        x.give(0);
        due("14: e", x.take(0), 4);
        due("14: again", x.take(0), STATE);
        due("14: none given", x.count(4), 0);
        due("14: the ask stays", x.count(3), 1);
        due("14: once more", x.give(0), 4);
    }

    private static void p15Where() {
        SmallFlyers x = new SmallFlyers();
        x.ask(0, 2, 5, 9, 9, 1, 1);
        due("15: ask", x.where(1, 60), UNKNOWN);
        due("15: minute", x.where(0, 60), OUTSIDE);
        due("15: minute", x.where(0, -1), OUTSIDE);
        due("15: not given", x.where(0, 5), STATE);
        x.give(0);
        int[] cells = {NONE, 0, 1, 2, NONE};
        for (int t = 4; t <= 8; t++) {
            due("15: minute " + t, x.where(0, t), cells[t - 4]);
        }
    }

    private static void p16Meet() {
        SmallFlyers x = new SmallFlyers();
        x.air(6, 2);
        x.ask(0, 1, 0, 9, 9, 1, 1);
        x.ask(3, 2, 1, 9, 9, 1, 1);
        x.ask(5, 4, 2, 9, 9, 1, 1);
        due("16: ask", x.meet(0, 3, 9), UNKNOWN);
        due("16: ask", x.meet(-1, 0, 0), UNKNOWN);
        due("16: near", x.meet(0, 1, 4), OUTSIDE);
        due("16: near", x.meet(0, 1, -1), OUTSIDE);
        due("16: not given", x.meet(0, 1, 0), STATE);
        x.give(0);
        due("16: one is not given", x.meet(0, 1, 0), STATE);
        x.give(1);
        x.give(2);
        due("16: at minute 1 two apart", x.meet(0, 1, 1), 0);
        due("16: at minute 1 two apart", x.meet(0, 1, 2), 1);
        due("16: never both in the air", x.meet(0, 2, 3), 0);
        due("16: at minute 2 three apart", x.meet(2, 1, 2), 0);
        due("16: at minute 2 three apart", x.meet(2, 1, 3), 1);
        due("16: with itself", x.meet(0, 0, 0), 1);
        nearIsTheGreaterDifference();
        changeOfCells();
    }

    private static void nearIsTheGreaterDifference() {
        SmallFlyers x = new SmallFlyers();
        x.ask(0, 1, 0, 1, 1, 1, 1);
        x.ask(6, 7, 0, 1, 1, 1, 1);
        x.give(0);
        x.give(1);
        due("16: x by two, y by one", x.meet(0, 1, 1), 0);
        due("16: x by two, y by one", x.meet(0, 1, 2), 1);
        x.take(1);
        x.rule(1, 1);
        due("16: near as it is", x.soonest(1), 1);
        x.rule(1, 2);
        due("16: too near", x.soonest(1), NONE);
    }

    /** No two given ones can meet as they are given, but a wider NEAR meets; ones that change cells are refused. */
    private static void changeOfCells() {
        SmallFlyers x = new SmallFlyers();
        x.air(2, 2);
        x.ask(0, 1, 0, 1, 1, 1, 1);
        x.ask(1, 0, 0, 1, 1, 1, 1);
        x.ask(3, 2, 0, 1, 1, 1, 1);
        x.give(0);
        due("16: they would change cells", x.give(1), STATE);
        due("16: side by side", x.give(2), 1);
        due("16: side by side", x.meet(0, 2, 0), 0);
        due("16: side by side", x.meet(0, 2, 1), 1);
    }

    /** Four in a row that leave one after the other; the last ask wants all of the row to itself. */
    private static void p17Bars() {
        SmallFlyers x = new SmallFlyers();
        x.air(6, 2);
        x.ask(0, 1, 0, 9, 9, 1, 1);
        x.ask(4, 5, 0, 9, 9, 1, 1);
        x.ask(2, 3, 0, 9, 9, 1, 1);
        x.rule(1, 1);
        x.ask(6, 7, 0, 1, 1, 1, 1);
        x.ask(8, 9, 0, 1, 1, 1, 1);
        due("17: there is a soonest", x.bars(3), 0);
        due("17: no bar", x.bar(3, 0), NONE);
        x.give(0);
        due("17: one", x.bars(3), 1);
        due("18: it", x.bar(3, 0), 0);
        x.give(1);
        due("17: only what is near", x.bars(3), 1);
        due("17: none is near", x.bars(4), 0);
        due("18: none is near", x.bar(4, 0), NONE);
        x.rule(1, 0);
        due("17: nearer is too far", x.bars(3), 0);
        x.give(2);
        x.rule(1, 2);
        due("17: two", x.bars(3), 2);
        due("18: first", x.bar(3, 0), 0);
        due("18: second", x.bar(3, 1), 2);
        due("18: no third", x.bar(3, 2), NONE);
        due("18: no such", x.bar(3, -1), NONE);
        x.rule(1, 3);
        due("17: three", x.bars(4), 3);
        due("18: by numbers", x.bar(4, 1), 1);
        x.shut(7, 0, 59);
        due("17: none without all", x.bars(3), NONE);
        due("18: none without all", x.bar(3, 0), NONE);
        due("17: ask", x.bars(5), UNKNOWN);
        due("18: ask", x.bar(-1, 0), UNKNOWN);
        due("17: given", x.bars(0), STATE);
        due("18: given", x.bar(0, 0), STATE);
    }

    /** Two ways from corner to corner, each barred by one; then both by two more. */
    private static void p18Bar() {
        SmallFlyers x = new SmallFlyers();
        x.air(2, 2);
        x.ask(2, 0, 1, 2, 1, 1, 1);
        x.ask(3, 1, 0, 1, 1, 1, 1);
        x.ask(0, 3, 0, 2, 2, 1, 1);
        x.give(1);
        due("18: there is one yet", x.bars(2), 0);
        x.give(0);
        due("18: either", x.bars(2), 1);
        due("18: the first by numbers", x.bar(2, 0), 0);
        due("18: no more", x.bar(2, 1), NONE);
        fewerThoughLater();
        firstByNumbers();
    }

    /** One of the higher number is fewer than two of the lower ones. */
    private static void fewerThoughLater() {
        SmallFlyers x = new SmallFlyers();
        x.air(3, 3);
        x.shut(4, 0, 59);
        x.ask(5, 2, 1, 2, 1, 1, 1);
        x.ask(2, 1, 0, 1, 1, 1, 1);
        x.ask(0, 8, 0, 4, 4, 1, 1);
        x.ask(6, 3, 0, 1, 1, 1, 1);
        x.give(0);
        x.give(1);
        x.give(3);
        due("18: one of two ways", x.bars(2), 1);
        due("18: the other way has but one", x.bar(2, 0), 3);
    }

    /** The upper way is barred by 0 and 3, the lower by 1 and 2: as many, 0 comes first. */
    private static void firstByNumbers() {
        SmallFlyers x = new SmallFlyers();
        x.air(3, 3);
        x.shut(4, 0, 59);
        x.ask(2, 1, 0, 1, 1, 1, 1);
        x.ask(6, 3, 0, 1, 1, 1, 1);
        x.ask(7, 6, 1, 2, 1, 1, 1);
        x.ask(5, 2, 1, 2, 1, 1, 1);
        x.ask(0, 8, 0, 4, 4, 1, 1);
        for (int a = 0; a < 4; a++) {
            x.give(a);
        }
        due("18: two", x.bars(4), 2);
        due("18: first by numbers", x.bar(4, 0), 0);
        due("18: first by numbers", x.bar(4, 1), 3);
    }

    private static void p19AtOnce() {
        SmallFlyers x = new SmallFlyers();
        due("19: no set", x.atOnce(0), 0);
        due("19: no ask", x.atOnce(1), OUTSIDE);
        due("19: no ask", x.atOnce(-1), OUTSIDE);
        due("19: no ask", x.atOnce(Integer.MIN_VALUE), OUTSIDE);
        x.air(2, 2);
        x.shut(2, 0, 59);
        x.shut(3, 0, 59);
        x.ask(0, 1, 0, 1, 2, 1, 1);
        x.ask(0, 1, 0, 1, 2, 9, 1);
        x.ask(0, 1, 3, 6, 2, 2, 1);
        due("19: one", x.atOnce(1), 1);
        due("19: one is left out", x.atOnce(3), 109);
        due("20: the dearer first", x.order(3, 0), 1);
        due("20: then the one left out", x.order(3, 1), 0);
        due("20: no third", x.order(3, 2), NONE);
        due("20: no such", x.order(3, -1), NONE);
        due("19: another time", x.atOnce(7), 111);
        due("20: of like ones the first by asks", x.order(7, 0), 1);
        due("20: of like ones the first by asks", x.order(7, 1), 0);
        due("20: of like ones the first by asks", x.order(7, 2), 2);
        due("19: nothing is given", x.count(4), 0);
        for (int k = 3; k < 7; k++) {
            x.ask(0, 1, 50, 51, 1, 1, 1);
        }
        due("19: five", x.atOnce(31), 212);
        due("19: six", x.atOnce(63), OUTSIDE);
        due("20: six", x.order(63, 0), OUTSIDE);
        due("21: six", x.giveAll(63), OUTSIDE);
        due("20: no ask", x.order(1 << 7, 0), OUTSIDE);
        due("21: no ask", x.giveAll(1 << 7), OUTSIDE);
        x.give(2);
        due("19: one is given", x.atOnce(4), STATE);
        due("20: one is given", x.order(5, 0), STATE);
        due("21: one is given", x.giveAll(6), STATE);
        due("19: outside ahead of state", x.atOnce(4 | 1 << 9), OUTSIDE);
        due("19: beside a given one", x.atOnce(3), 109);
    }

    private static void p20Order() {
        SmallFlyers x = new SmallFlyers();
        x.air(3, 2);
        x.shut(3, 0, 59);
        x.shut(4, 0, 59);
        x.shut(5, 0, 59);
        x.ask(2, 0, 0, 9, 9, 1, 1);
        x.ask(0, 2, 0, 9, 9, 1, 1);
        due("20: alike", x.order(3, 0), 0);
        due("20: alike", x.order(3, 1), 1);
        due("20: none of none", x.order(0, 0), NONE);
        x.ask(0, 2, 0, 9, 9, 2, 1);
        due("20: the higher rank", x.order(5, 0), 2);
    }

    private static void p21GiveAll() {
        SmallFlyers x = new SmallFlyers();
        due("21: none", x.giveAll(0), 0);
        x.air(2, 2);
        x.shut(2, 0, 59);
        x.shut(3, 0, 59);
        x.ask(0, 1, 0, 1, 2, 1, 1);
        x.ask(0, 1, 0, 1, 2, 9, 1);
        x.ask(0, 1, 3, 6, 2, 2, 1);
        due("21: two of three", x.giveAll(7), 2);
        due("21: left out", x.about(0, 7), 0);
        due("21: given", x.about(1, 7), 1);
        due("21: where", x.where(1, 1), 1);
        due("21: where", x.where(2, 4), 1);
        due("21: count", x.count(4), 2);
        due("21: minutes", x.count(5), 2);
        due("21: left out again", x.giveAll(1), 0);
    }

    private static void p22Silent() {
        SmallFlyers x = new SmallFlyers();
        due("22: cell", x.silent(16, 60, 4), UNKNOWN);
        due("22: minute", x.silent(0, 60, 0), OUTSIDE);
        due("22: minute", x.silent(0, -1, 0), OUTSIDE);
        due("22: speed", x.silent(0, 0, 4), OUTSIDE);
        due("22: speed", x.silent(0, 0, -1), OUTSIDE);
        due("22: none", x.could(59), 0);
        due("22: seen", x.silent(0, 0, 0), 1);
        due("22: instead", x.silent(5, 3, 0), 1);
        due("22: instead", x.couldBe(0, 3), 0);
        due("22: instead", x.couldBe(5, 3), 1);
        due("22: refused changes nothing", x.silent(0, 0, 9), OUTSIDE);
        due("22: refused changes nothing", x.couldBe(5, 3), 1);
        due("22: the last minute", x.silent(5, 59, 3), 1);
        due("22: the last minute", x.could(59), 1);
    }

    private static void p23Could() {
        SmallFlyers x = new SmallFlyers();
        x.air(6, 6);
        x.silent(0, 5, 2);
        due("23: later", x.could(4), 0);
        due("23: then", x.could(5), 1);
        due("23: two steps", x.could(6), 6);
        due("23: four steps", x.could(7), 15);
        due("23: everywhere", x.could(10), 36);
        due("23: minute", x.could(60), OUTSIDE);
        due("23: minute", x.could(-1), OUTSIDE);
        x.silent(0, 5, 0);
        due("23: never moves", x.could(59), 1);
        shutsStopIt();
    }

    /** 3 by 2: the middle column is shut at minute 1, when it may leave a shut cell but not come into one. */
    private static void shutsStopIt() {
        SmallFlyers x = new SmallFlyers();
        x.air(3, 2);
        x.shut(1, 0, 1);
        x.shut(4, 0, 1);
        x.silent(0, 0, 3);
        due("23: stopped", x.could(1), 2);
        due("23: on", x.could(2), 6);
        x.silent(1, 0, 1);
        due("23: seen where it is shut", x.couldBe(1, 0), 1);
        due("23: stays where it is shut", x.couldBe(1, 1), 1);
        due("23: comes into none", x.couldBe(4, 1), 0);
        due("23: leaves it", x.could(1), 3);
        x.shut(0, 1, 1);
        due("23: told later", x.could(1), 2);
        due("23: told later", x.could(2), 5);
    }

    private static void p24CouldBe() {
        SmallFlyers x = new SmallFlyers();
        due("24: none seen", x.couldBe(0, 0), 0);
        x.silent(5, 10, 1);
        due("24: later", x.couldBe(5, 9), 0);
        due("24: then", x.couldBe(5, 10), 1);
        due("24: beside", x.couldBe(6, 10), 0);
        due("24: beside", x.couldBe(6, 11), 1);
        due("24: corner", x.couldBe(0, 11), 0);
        due("24: corner", x.couldBe(0, 12), 1);
        due("24: cell", x.couldBe(16, 60), UNKNOWN);
        due("24: minute", x.couldBe(0, 60), OUTSIDE);
        due("24: minute", x.couldBe(0, -1), OUTSIDE);
    }

    private static void p25LedOff() {
        SmallFlyers x = new SmallFlyers();
        due("25: none", x.ledOff(), 0);
        due("26: none", x.led(0), NONE);
        x.ask(0, 3, 0, 20, 9, 1, 1);
        x.ask(8, 11, 5, 20, 9, 1, 1);
        x.ask(12, 15, 10, 20, 9, 1, 1);
        due("27: ask", x.ledAt(3), UNKNOWN);
        due("27: not given", x.ledAt(0), STATE);
        x.giveAll(7);
        due("27: none seen", x.ledAt(0), NONE);
        x.silent(10, 3, 0);
        due("25: one", x.ledOff(), 1);
        due("26: it", x.led(0), 1);
        due("26: no other", x.led(1), NONE);
        due("26: no such", x.led(-1), NONE);
        due("27: at", x.ledAt(1), 7);
        due("27: not led off", x.ledAt(2), NONE);
        x.silent(3, 3, 1);
        due("27: at its end", x.ledAt(0), 3);
        due("25: all", x.ledOff(), 3);
        due("26: by numbers", x.led(2), 2);
        x.silent(3, 4, 0);
        due("27: no longer in the air", x.ledAt(0), NONE);
        x.silent(8, 6, 0);
        due("27: gone before", x.ledAt(1), NONE);
        x.silent(8, 5, 0);
        due("27: at its start", x.ledAt(1), 5);
        x.take(1);
        due("25: not given", x.ledOff(), 0);
        due("27: not given", x.ledAt(1), STATE);
    }

    private static void p28Ears() {
        SmallFlyers x = new SmallFlyers();
        due("28: at first", x.ears(15, 99), 0);
        due("28: was", x.ears(15, 0), 99);
        due("28: cell", x.ears(16, 100), UNKNOWN);
        due("28: cell", x.ears(-1, 0), UNKNOWN);
        due("28: v", x.ears(15, 100), OUTSIDE);
        due("28: v", x.ears(15, -1), OUTSIDE);
        due("28: refused changes nothing", x.ears(15, 1), 0);
    }

    private static void p29Noise() {
        SmallFlyers x = new SmallFlyers();
        due("29: cell", x.noise(16), UNKNOWN);
        due("29: cell", x.noise(-1), UNKNOWN);
        for (int c = 0; c < 16; c++) {
            x.ears(c, 1);
        }
        x.ask(5, 6, 0, 1, 1, 1, 3);
        due("29: none given", x.noise(5), 0);
        x.give(0);
        int[] heard = {1, 3, 3, 1, 2, 6, 6, 2, 1, 3, 3, 1, 0, 0, 0, 0};
        for (int c = 0; c < 16; c++) {
            due("29: cell " + c, x.noise(c), 3 * heard[c]);
        }
        x.ears(5, 10);
        due("29: times ears", x.noise(5), 180);
        x.ask(4, 8, 0, 1, 1, 1, 1);
        x.give(1);
        due("29: of all", x.noise(5), 180 + 30);
        x.take(0);
        due("29: taken back", x.noise(5), 30);
    }

    private static void p30Worst() {
        SmallFlyers x = new SmallFlyers();
        due("30: none", x.worst(false), 0);
        due("30: the least cell", x.worst(true), 0);
        x.ears(2, 5);
        x.ears(1, 5);
        x.ask(1, 2, 0, 1, 1, 1, 2);
        x.give(0);
        due("30: noise", x.worst(false), 60);
        due("30: of like ones the least", x.worst(true), 1);
        x.ears(2, 6);
        due("30: greatest", x.worst(true), 2);
        due("30: greatest", x.worst(false), 72);
    }

    private static void p31Quietest() {
        SmallFlyers x = new SmallFlyers();
        x.air(3, 3);
        x.ask(0, 2, 0, 20, 9, 1, 2);
        due("31: no ears", x.quietest(0), 0);
        due("31: as the soonest", x.quietAt(0, 1, 1), 0);
        x.ears(1, 9);
        due("31: around", x.quietest(0), 108);
        x.ask(0, 2, 0, 20, 5, 1, 2);
        due("31: no charge for it", x.quietest(1), 144);
        x.ask(0, 2, 0, 5, 9, 1, 2);
        due("31: no time for it", x.quietest(2), 144);
        due("31: ask", x.quietest(3), UNKNOWN);
        x.ask(0, 2, 0, 1, 9, 1, 2);
        due("31: none", x.quietest(3), NONE);
        due("32: none", x.price(3), NONE);
        due("33: none", x.quietAt(3, 0, 0), NONE);
        due("33: none", x.quietAt(3, 1, 0), NONE);
        x.giveQuiet(0);
        due("31: given", x.quietest(0), STATE);
        x.ask(0, 2, 0, 6, 9, 1, 2);
        due("31: keeps apart", x.quietest(4), 144);
    }

    private static void p32Price() {
        SmallFlyers x = new SmallFlyers();
        x.air(3, 3);
        x.ears(1, 9);
        x.ask(0, 2, 0, 20, 9, 1, 2);
        due("32: minutes later", x.price(0), 4);
        x.ears(1, 0);
        due("32: none later", x.price(0), 0);
        due("32: ask", x.price(1), UNKNOWN);
        x.give(0);
        due("32: given", x.price(0), STATE);
        due("32: ask", x.price(-1), UNKNOWN);
    }

    private static void p33QuietAt() {
        SmallFlyers x = new SmallFlyers();
        x.air(3, 3);
        x.ears(1, 9);
        x.ask(0, 2, 7, 20, 9, 1, 2);
        due("33: b", x.quietAt(0, 0, 99), 7);
        int[] steps = {1, 1, 0, 0, 3, 3};
        for (int i = 0; i < steps.length; i++) {
            due("33: step " + i, x.quietAt(0, 1, i), steps[i]);
        }
        due("33: no such", x.quietAt(0, 1, 6), NONE);
        due("33: no such", x.quietAt(0, 1, -1), NONE);
        due("33: what", x.quietAt(0, 2, 0), OUTSIDE);
        due("33: what", x.quietAt(0, -1, 0), OUTSIDE);
        due("33: ask", x.quietAt(1, 2, 0), UNKNOWN);
        x.give(0);
        due("33: given", x.quietAt(0, 1, 0), STATE);
        due("33: outside ahead of state", x.quietAt(0, 2, 0), OUTSIDE);
    }

    private static void p34Count() {
        SmallFlyers x = new SmallFlyers();
        x.air(5, 6);
        x.shut(29, 1, 1);
        x.shut(29, 2, 2);
        x.folk(29, 1, 1);
        x.ask(0, 4, 0, 20, 9, 1, 1);
        x.ask(5, 7, 0, 20, 9, 1, 1);
        x.ask(10, 11, 0, 20, 9, 1, 1);
        x.give(0);
        x.give(1);
        int[] counts = {30, 2, 1, 3, 2, 6};
        for (int what = 0; what < counts.length; what++) {
            due("34: " + what, x.count(what), counts[what]);
        }
        due("34: what", x.count(6), OUTSIDE);
        due("34: what", x.count(-1), OUTSIDE);
        x.take(0);
        due("34: taken back", x.count(4), 1);
        due("34: taken back", x.count(5), 2);
    }

    public static void main(String[] args) {
        p01NewObject();
        p02Air();
        p03Shut();
        p04Folk();
        p05Rule();
        p06Down();
        p07Open();
        p08Ask();
        p09About();
        p10Soonest();
        p11SoonestAt();
        p12Give();
        p13GiveQuiet();
        p14Take();
        p15Where();
        p16Meet();
        p17Bars();
        p18Bar();
        p19AtOnce();
        p20Order();
        p21GiveAll();
        p22Silent();
        p23Could();
        p24CouldBe();
        p25LedOff();
        p28Ears();
        p29Noise();
        p30Worst();
        p31Quietest();
        p32Price();
        p33QuietAt();
        p34Count();
        C.end();
    }
}
