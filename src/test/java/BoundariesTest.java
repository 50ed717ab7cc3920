import java.io.IOException;

/** Promises 1 to 34, word by word: for each refusal, each NONE and each other boundary a test of its own. */
public final class BoundariesTest {
    private static Sentences doc;

    /** 2 by 2 with the lower row shut: 0 and 1 alone. */
    private static final String PAIR = "air(2, 2) = 4; shut(2, 0, 59); shut(3, 0, 59); ";
    /** Something of everything is told. */
    private static final String TOLD = "shut(9, 0, 59) = 1; folk(10, 0, 59) = 1; ears(3, 7) = 0; silent(5, 0, 1) = 1; "
            + "ask(0, 1, 0, 9, 9, 1, 1) = 0; give(0) = 1; ask(4, 5, 0, 9, 9, 1, 1) = 1; ";
    private static final String ASK = "ask(0, 2, 5, 20, 9, 1, 1) = 0; ";
    /** An ask that has no way: six steps in five minutes. */
    private static final String NO_WAY = "ask(0, 15, 0, 5, 30, 1, 1) = 0; ";

    public static void main(String[] args) throws IOException {
        doc = new Sentences("BoundariesTest");
        newObject();
        air();
        shutAndFolk();
        rule();
        downAndOpen();
        ask();
        about();
        soonest();
        soonestAt();
        give();
        giveQuiet();
        take();
        where();
        meet();
        bars();
        atOnce();
        order();
        giveAll();
        silent();
        could();
        led();
        ears();
        noise();
        quietest();
        quietAt();
        count();
        doc.end();
    }

    /** A call with each of several numbers instead of its "#": each is answered likewise. */
    private static String each(String call, String due, String... numbers) {
        StringBuilder text = new StringBuilder();
        for (String number : numbers) {
            text.append(call.replace("#", number)).append(" = ").append(due).append("; ");
        }
        return text.toString();
    }

    private static String unknownCell(String call) {
        return each(call, "UNKNOWN", "-1", "16", "36", "64", "MIN", "MAX") + "air(2, 3) = 6; "
                + each(call, "UNKNOWN", "-1", "6", "15");
    }

    private static String unknownAsk(String call) {
        return each(call, "UNKNOWN", "0", "-1") + "ask(0, 1, 0, 1, 1, 1, 1) = 0; "
                + each(call, "UNKNOWN", "1", "-1", "9", "10", "32", "MIN", "MAX");
    }

    private static String noMinute(String call) {
        return each(call, "OUTSIDE", "-1", "60", "MIN", "MAX");
    }

    private static void newObject() {
        doc.of("Promise 1");
        String open = Script.forEach(16, "open(#, 0) = 1; ears(#, 0) = 0; down(#, 59) = 0; noise(#) = 0; ");
        doc.says("4 by 4 CELLS;", "count(0) = 16; open(15, 0) = 1; open(16, 0) = UNKNOWN; "
                + "ask(0, 15, 0, 59, 30, 1, 1) = 0; soonest(0) = 6; ask(3, 4, 0, 59, 30, 1, 1) = 1; soonest(1) = 4; "
                + "ask(0, 4, 0, 59, 30, 1, 1) = 2; soonest(2) = 1");
        doc.says("nothing is told.", open + "count(1) = 0; count(2) = 0; count(3) = 0; count(4) = 0; count(5) = 0; "
                + "could(0) = 0; could(59) = 0; couldBe(0, 0) = 0; ledOff() = 0; led(0) = NONE; worst(false) = 0; "
                + "worst(true) = 0; about(0, 0) = UNKNOWN; atOnce(0) = 0; rule(0, 1) = 1; rule(1, 0) = 0");
    }

    private static void air() {
        doc.of("Promise 2");
        doc.says("W by H CELLS,", "air(6, 2) = 12; ask(5, 6, 0, 1, 1, 1, 1) = 0; soonest(0) = NONE; "
                + "ask(5, 11, 0, 1, 1, 1, 1) = 1; soonest(1) = 1; air(2, 6) = 12; ask(5, 11, 0, 3, 3, 1, 1) = 0; "
                + "soonest(0) = 3; ask(5, 7, 0, 1, 1, 1, 1) = 1; soonest(1) = 1; ask(1, 2, 0, 1, 1, 1, 1) = 2; "
                + "soonest(2) = NONE");
        doc.says("nothing else told", TOLD + "air(4, 4) = 16; count(1) = 0; count(2) = 0; count(3) = 0; count(4) = 0; "
                + "count(5) = 0; ears(3, 0) = 0; could(0) = 0; could(59) = 0; ledOff() = 0; open(9, 0) = 1; "
                + "down(10, 0) = 0; about(0, 0) = UNKNOWN; where(0, 0) = UNKNOWN; worst(false) = 0; "
                + "ask(0, 1, 0, 1, 1, 1, 1) = 0; about(0, 7) = 0; soonest(0) = 1",
                "20x shut(0, 0, 0); 20x folk(0, 0, 0); 10x ask(0, 1, 0, 1, 1, 1, 1); air(4, 4) = 16; shut(0, 0, 0) = 1; "
                + "folk(0, 0, 0) = 1; ask(0, 1, 0, 1, 1, 1, 1) = 0",
                "air(6, 6) = 36; " + Script.forEach(36, "ears(#, 9) = 0; ") + "air(2, 2) = 4; air(6, 6) = 36; "
                + Script.forEach(36, "ears(#, 9) = 0; "),
                "rule(0, 0) = 1; " + Script.forEach(16, "shut(#, 0, 59); ") + "air(4, 4) = 16; "
                + Script.forEach(16, "open(#, 0) = 1; open(#, 59) = 1; folk(#, 0, 59); ") + "air(4, 4) = 16; "
                + Script.forEach(16, "down(#, 0) = 0; down(#, 59) = 0; "));
        doc.says("(GLIDE, NEAR stay):", "rule(0, 3) = 1; rule(1, 2) = 0; air(3, 3) = 9; rule(0, 0) = 3; rule(1, 1) = 2; "
                + "air(2, 2) = 4; folk(0, 0, 9); down(0, 0) = NONE; ask(0, 1, 0, 1, 1, 1, 1) = 0; "
                + "ask(2, 3, 20, 21, 1, 1, 1) = 1; ask(0, 1, 20, 21, 1, 1, 1) = 2; give(1) = 21; soonest(2) = NONE; "
                + "rule(0, 4) = 0; rule(1, 3) = 1");
        doc.says("how many CELLS.", "air(2, 2) = 4; air(2, 3) = 6; air(3, 2) = 6; air(5, 6) = 30; air(6, 6) = 36; "
                + "count(0) = 36");
        doc.says("OUTSIDE.", each("air(#, 2)", "OUTSIDE", "1", "0", "-2", "7", "MIN", "MAX", "65536")
                + each("air(2, #)", "OUTSIDE", "1", "0", "-2", "7", "MIN", "MAX", "65536")
                + "air(65536, 65536) = OUTSIDE; air(1, 1) = OUTSIDE; air(7, 7) = OUTSIDE; air(-2, -2) = OUTSIDE; "
                + "air(1, 6) = OUTSIDE; air(6, 1) = OUTSIDE; count(0) = 16");
    }

    private static void shutAndFolk() {
        doc.of("Promise 3");
        doc.says("A SHUT: how many there are.", "shut(0, 0, 59) = 1; shut(15, 59, 59) = 2; shut(0, 0, 0) = 3; "
                + "shut(0, 0, 0) = 4; folk(0, 0, 0) = 1; shut(1, 5, 6) = 5; count(1) = 5");
        doc.says("UNKNOWN;", unknownCell("shut(#, 0, 1)") + "count(1) = 0");
        String spans = "#(0, 0, 0); #(0, 59, 59); #(0, 5, 5); #(0, 0, 59); count(W) = 4; #(0, 5, 4) = OUTSIDE; "
                + "#(0, 59, 0) = OUTSIDE; #(0, -1, 0) = OUTSIDE; #(0, -1, -1) = OUTSIDE; #(0, 59, 60) = OUTSIDE; "
                + "#(0, 60, 60) = OUTSIDE; #(0, 60, 59) = OUTSIDE; #(0, MIN, MAX) = OUTSIDE; #(0, 0, MAX) = OUTSIDE; "
                + "#(0, MIN, 0) = OUTSIDE; #(0, MAX, MIN) = OUTSIDE; count(W) = 4";
        doc.says("OUTSIDE: minutes (to no less than from);", spans.replace("#", "shut").replace("W", "1"));
        doc.says("FULL: 20.", "19x shut(0, 0, 0); shut(0, 0, 0) = 20; shut(0, 0, 0) = FULL; shut(1, 1, 1) = FULL; "
                + "open(1, 1) = 1; count(1) = 20; folk(0, 0, 0) = 1; shut(1, 1, 1) = FULL");
        doc.of("Promise 4");
        doc.says("FOLK: how many there are.", "folk(0, 0, 59) = 1; folk(15, 59, 59) = 2; folk(0, 0, 0) = 3; "
                + "folk(0, 0, 0) = 4; shut(0, 0, 0) = 1; folk(1, 5, 6) = 5; count(2) = 5");
        doc.says("UNKNOWN;", unknownCell("folk(#, 0, 1)") + "count(2) = 0");
        doc.says("OUTSIDE;", spans.replace("#", "folk").replace("W", "2"));
        doc.says("FULL: 20.", "19x folk(0, 0, 0); folk(0, 0, 0) = 20; folk(0, 0, 0) = FULL; folk(1, 1, 1) = FULL; "
                + "down(1, 1) = 0; count(2) = 20; shut(0, 0, 0) = 1; folk(1, 1, 1) = FULL");
    }

    private static void rule() {
        doc.of("Promise 5");
        doc.says("GLIDE (what = 0),", "rule(0, 0) = 1; rule(0, 1) = 0; rule(0, 2) = 1; rule(0, 3) = 2; rule(0, 4) = 3; "
                + "rule(0, 4) = 4; rule(1, 0) = 0");
        doc.says("NEAR (1):", "rule(1, 0) = 0; rule(1, 1) = 0; rule(1, 2) = 1; rule(1, 3) = 2; rule(1, 3) = 3; "
                + "rule(0, 1) = 1");
        doc.says("what it was.", "rule(0, 2) = 1; rule(1, 3) = 0; rule(0, 0) = 2; rule(1, 1) = 3; rule(0, 0) = 0; "
                + "rule(1, 1) = 1");
        doc.says("OUTSIDE.", each("rule(0, #)", "OUTSIDE", "-1", "5", "MIN", "MAX")
                + each("rule(1, #)", "OUTSIDE", "-1", "4", "MIN", "MAX") + each("rule(#, 0)", "OUTSIDE", "-1", "2", "MIN", "MAX")
                + "rule(0, 1) = 1; rule(1, 0) = 0");
    }

    private static void downAndOpen() {
        doc.of("Promise 6");
        doc.says("Steps of the shortest DOWN from a CELL at a MINUTE;", "air(2, 2) = 4; rule(0, 4) = 1; down(0, 0) = 0; "
                + "down(3, 59) = 0; folk(0, 0, 59); down(0, 0) = 1; folk(1, 0, 59); folk(2, 0, 59); down(0, 0) = 2; "
                + "down(1, 0) = 1; folk(3, 0, 30); down(3, 30) = 2; down(0, 27) = 4; down(0, 28) = 4; down(0, 29) = 2");
        doc.says("NONE: there is none.", "air(2, 2) = 4; folk(0, 0, 59); folk(1, 0, 59); folk(2, 0, 59); down(0, 0) = NONE; "
                + "down(0, 58) = NONE; down(0, 59) = 1; rule(0, 0) = 1; down(1, 0) = NONE; down(0, 59) = NONE");
        doc.says("UNKNOWN;", unknownCell("down(#, 0)"));
        doc.says("OUTSIDE.", noMinute("down(0, #)") + noMinute("down(15, #)"));
        doc.of("Promise 7");
        doc.says("Whether a CELL is OPEN at a MINUTE: 1, 0.", "shut(0, 0, 0); shut(15, 59, 59); open(0, 0) = 0; "
                + "open(0, 1) = 1; open(15, 59) = 0; open(15, 58) = 1; rule(0, 0) = 1; folk(5, 7, 7); open(5, 7) = 0; "
                + "open(5, 6) = 1; open(5, 8) = 1; rule(0, 1) = 0; open(5, 7) = 1");
        doc.says("UNKNOWN;", unknownCell("open(#, 0)"));
        doc.says("OUTSIDE.", noMinute("open(0, #)") + noMinute("open(15, #)"));
    }

    private static void ask() {
        doc.of("Promise 8");
        doc.says("An ASK: its number.", "ask(0, 1, 0, 1, 1, 1, 1) = 0; ask(0, 1, 0, 1, 1, 1, 1) = 1; "
                + "ask(0, 1, 1, 0, 1, 1, 1) = OUTSIDE; ask(15, 0, 58, 59, 30, 9, 9) = 2; count(3) = 3; give(0) = 1; "
                + "ask(15, 0, 58, 59, 30, 9, 9) = 3");
        doc.says("UNKNOWN: cells;", unknownCell("ask(#, 0, 0, 1, 1, 1, 1)") + "air(4, 4) = 16; "
                + unknownCell("ask(0, #, 0, 1, 1, 1, 1)") + "ask(-1, -1, 0, 1, 1, 1, 1) = UNKNOWN; count(3) = 0");
        doc.says("OUTSIDE: minutes, charge, rank, hum;", noMinute("ask(0, 1, #, 1, 1, 1, 1)")
                + noMinute("ask(0, 1, 0, #, 1, 1, 1)") + each("ask(0, 1, 5, #, 1, 1, 1)", "OUTSIDE", "5", "4", "0")
                + each("ask(0, 1, #, 59, 1, 1, 1)", "OUTSIDE", "59", "60")
                + each("ask(0, 1, 0, 1, #, 1, 1)", "OUTSIDE", "0", "-1", "31", "MIN", "MAX")
                + each("ask(0, 1, 0, 1, 1, #, 1)", "OUTSIDE", "0", "-1", "10", "MIN", "MAX")
                + each("ask(0, 1, 0, 1, 1, 1, #)", "OUTSIDE", "0", "-1", "10", "MIN", "MAX")
                + "count(3) = 0; ask(0, 1, 0, 1, 1, 1, 1) = 0; ask(0, 1, 58, 59, 30, 9, 9) = 1");
        doc.says("STATE: both CELLS are one;", each("ask(#, #, 0, 1, 1, 1, 1)", "STATE", "0", "7", "15")
                + "count(3) = 0; ask(7, 6, 0, 1, 1, 1, 1) = 0");
        doc.says("FULL: 10.", "9x ask(0, 1, 0, 1, 1, 1, 1); ask(0, 1, 0, 1, 1, 1, 1) = 9; ask(0, 1, 0, 1, 1, 1, 1) = FULL; "
                + "ask(2, 3, 4, 5, 6, 7, 8) = FULL; about(9, 0) = 0; about(9, 6) = 1; about(10, 0) = UNKNOWN; count(3) = 10; "
                + "give(0) = 1; take(0) = 1; ask(0, 1, 0, 1, 1, 1, 1) = FULL");
    }

    private static void about() {
        doc.of("Promise 9");
        String told = "ask(3, 12, 4, 40, 20, 8, 7) = 0; ask(15, 0, 0, 59, 30, 9, 9) = 1; ";
        doc.says("Of an ASK: FROM (what = 0),", told + "about(0, 0) = 3; about(1, 0) = 15");
        doc.says("TO (1),", told + "about(0, 1) = 12; about(1, 1) = 0");
        doc.says("EARLIEST (2),", told + "about(0, 2) = 4; about(1, 2) = 0");
        doc.says("LATEST (3),", told + "about(0, 3) = 40; about(1, 3) = 59");
        doc.says("CHARGE (4),", told + "about(0, 4) = 20; about(1, 4) = 30");
        doc.says("RANK (5),", told + "about(0, 5) = 8; about(1, 5) = 9");
        doc.says("HUM (6),", told + "about(0, 6) = 7; about(1, 6) = 9");
        doc.says("whether it is GIVEN (7).", told + "about(0, 7) = 0; give(0) = 10; about(0, 7) = 1; about(1, 7) = 0; "
                + "soonest(1) = 6; about(1, 7) = 0; atOnce(2) = 54; about(1, 7) = 0; giveQuiet(1) = 6; about(1, 7) = 1; "
                + "take(0) = 10; about(0, 7) = 0; giveAll(1) = 1; about(0, 7) = 1; about(0, 0) = 3; about(0, 3) = 40");
        doc.says("UNKNOWN;", unknownAsk("about(#, 0)"));
        doc.says("OUTSIDE.", told + each("about(0, #)", "OUTSIDE", "-1", "8", "MIN", "MAX"));
    }

    private static void soonest() {
        doc.of("Promise 10");
        doc.says("e of THE SOONEST;", ASK + "soonest(0) = 7; shut(2, 7, 19); soonest(0) = 20; count(4) = 0",
                "ask(0, 1, 58, 59, 1, 1, 1) = 0; soonest(0) = 59", "ask(0, 1, 0, 1, 1, 1, 1) = 0; soonest(0) = 1");
        doc.says("NONE: there is none.", ASK + "shut(2, 7, 20); soonest(0) = NONE; soonest(0) = NONE", NO_WAY
                + "soonest(0) = NONE", PAIR + "ask(0, 1, 0, 1, 1, 1, 1); ask(0, 1, 0, 1, 1, 1, 1); give(0) = 1; "
                + "soonest(1) = NONE; take(0) = 1; soonest(1) = 1");
        doc.says("UNKNOWN;", unknownAsk("soonest(#)"));
        doc.says("STATE: it is GIVEN.", ASK + "give(0) = 7; soonest(0) = STATE; take(0) = 7; soonest(0) = 7");
    }

    private static void soonestAt() {
        doc.of("Promise 11");
        doc.says("b of THE SOONEST (what = 0),", ASK + each("soonestAt(0, 0, #)", "5", "0", "1", "-1", "MIN", "MAX")
                + "shut(0, 5, 17); soonestAt(0, 0, 0) = 18");
        doc.says("step i of it (1; NONE: there is no such);", ASK + "soonestAt(0, 1, 0) = 0; soonestAt(0, 1, 1) = 0; "
                + each("soonestAt(0, 1, #)", "NONE", "2", "3", "-1", "29", "30", "31", "MIN", "MAX"));
        doc.says("NONE: there is none.", NO_WAY + "soonestAt(0, 0, 0) = NONE; soonestAt(0, 1, 0) = NONE; "
                + "soonestAt(0, 1, -1) = NONE", ASK + "soonestAt(0, 0, 0) = 5; shut(2, 0, 59); soonestAt(0, 0, 0) = NONE; "
                + "soonestAt(0, 1, 0) = NONE");
        doc.says("UNKNOWN;", unknownAsk("soonestAt(#, 0, 0)"), unknownAsk("soonestAt(#, 1, 0)"));
        doc.says("OUTSIDE: what;", ASK + each("soonestAt(0, #, 0)", "OUTSIDE", "-1", "2", "MIN", "MAX"), NO_WAY
                + "soonestAt(0, 2, 0) = OUTSIDE");
        doc.says("STATE: it is GIVEN.", ASK + "give(0) = 7; soonestAt(0, 0, 0) = STATE; soonestAt(0, 1, 0) = STATE; "
                + "soonestAt(0, 1, 9) = STATE");
    }

    private static void give() {
        doc.of("Promise 12");
        doc.says("An ASK is GIVEN its SOONEST: e.", "air(3, 3) = 9; ears(1, 9); ask(0, 2, 0, 20, 9, 1, 1) = 0; "
                + "give(0) = 2; where(0, 0) = 0; where(0, 1) = 1; where(0, 2) = 2; where(0, 3) = NONE; count(4) = 1; "
                + "shut(1, 0, 59); where(0, 1) = 1; rule(1, 3); where(0, 1) = 1");
        doc.says("UNKNOWN;", unknownAsk("give(#)"));
        doc.says("STATE: it is GIVEN,", ASK + "give(0) = 7; give(0) = STATE; count(4) = 1; where(0, 5) = 0");
        doc.says("or there is none.", NO_WAY + "give(0) = STATE; about(0, 7) = 0; count(4) = 0; where(0, 0) = STATE",
                PAIR + "ask(0, 1, 0, 1, 1, 1, 1); ask(1, 0, 0, 1, 1, 1, 1); give(0) = 1; give(1) = STATE; about(1, 7) = 0; "
                + "take(0) = 1; give(1) = 1");
    }

    private static void giveQuiet() {
        doc.of("Promise 13");
        doc.says("An ASK is GIVEN its QUIETEST: e.", "air(3, 3) = 9; ears(1, 9); ask(0, 2, 0, 20, 9, 1, 1) = 0; "
                + "giveQuiet(0) = 6; where(0, 0) = 0; where(0, 2) = 6; where(0, 4) = 8; where(0, 6) = 2; "
                + "where(0, 7) = NONE; noise(1) = 54; count(4) = 1; count(5) = 6");
        doc.says("UNKNOWN;", unknownAsk("giveQuiet(#)"));
        doc.says("STATE: it is GIVEN,", ASK + "giveQuiet(0) = 7; giveQuiet(0) = STATE; give(0) = STATE; count(4) = 1",
                ASK + "give(0) = 7; giveQuiet(0) = STATE; where(0, 5) = 0");
        doc.says("or there is none.", NO_WAY + "giveQuiet(0) = STATE; about(0, 7) = 0; count(4) = 0", PAIR
                + "ask(0, 1, 0, 1, 1, 1, 1); ask(1, 0, 0, 1, 1, 1, 1); give(0) = 1; giveQuiet(1) = STATE; about(1, 7) = 0");
    }

    private static void take() {
        doc.of("Promise 14");
        doc.says("What is GIVEN is taken back: its e.", ASK + "give(0) = 7; take(0) = 7; about(0, 7) = 0; count(4) = 0; "
                + "count(5) = 0; count(3) = 1; give(0) = 7", PAIR + "ask(0, 1, 0, 1, 1, 1, 1); ask(1, 0, 0, 1, 1, 1, 1); "
                + "give(0) = 1; soonest(1) = NONE; take(0) = 1; soonest(1) = 1", ASK + "give(0) = 7; shut(2, 0, 59); "
                + "take(0) = 7; give(0) = STATE");
        doc.says("UNKNOWN;", unknownAsk("take(#)"));
        doc.says("STATE: it is not GIVEN.", ASK + "take(0) = STATE; give(0) = 7; take(0) = 7; take(0) = STATE; "
                + "soonest(0) = 7; take(0) = STATE");
    }

    private static void where() {
        doc.of("Promise 15");
        doc.says("The CELL of a GIVEN one at a MINUTE;", ASK + "give(0) = 7; where(0, 5) = 0; where(0, 6) = 1; "
                + "where(0, 7) = 2", "ask(1, 0, 58, 59, 1, 1, 1) = 0; ask(4, 8, 0, 1, 1, 1, 1) = 1; give(0) = 59; "
                + "give(1) = 1; where(0, 58) = 1; where(0, 59) = 0; where(1, 0) = 4; where(1, 1) = 8");
        doc.says("NONE: it is not in the air.", ASK + "give(0) = 7; " + each("where(0, #)", "NONE", "0", "4", "8", "59"));
        doc.says("UNKNOWN;", unknownAsk("where(#, 0)"));
        doc.says("OUTSIDE;", ASK + noMinute("where(0, #)") + "give(0) = 7; " + noMinute("where(0, #)"));
        doc.says("STATE: it is not GIVEN.", ASK + "where(0, 5) = STATE; soonest(0) = 7; where(0, 5) = STATE; give(0) = 7; "
                + "take(0) = 7; where(0, 5) = STATE; where(0, 59) = STATE");
    }

    private static void meet() {
        String two = "air(6, 2) = 12; ask(0, 1, 0, 9, 9, 1, 1) = 0; ask(3, 2, 1, 9, 9, 1, 1) = 1; ";
        doc.of("Promise 16");
        doc.says("Whether two GIVEN ones would MEET, if NEAR were so (0 to 3): 1, 0.", two + "give(0) = 1; give(1) = 2; "
                + "meet(0, 1, 0) = 0; meet(0, 1, 1) = 0; meet(0, 1, 2) = 1; meet(0, 1, 3) = 1; meet(1, 0, 1) = 0; "
                + "meet(1, 0, 2) = 1; rule(1, 3) = 0; meet(0, 1, 1) = 0; rule(1, 0) = 3; meet(0, 1, 2) = 1; "
                + "meet(0, 0, 0) = 1", two + "ask(5, 4, 3, 9, 9, 1, 1) = 2; giveAll(7) = 3; meet(0, 2, 3) = 0; "
                + "meet(1, 2, 3) = 0; meet(2, 1, 3) = 0");
        doc.says("UNKNOWN;", unknownAsk("meet(#, 0, 0)"), unknownAsk("meet(0, #, 0)"), unknownAsk("meet(#, #, 0)"),
                two + "give(0) = 1; meet(0, 2, 0) = UNKNOWN; meet(2, 0, 0) = UNKNOWN; meet(0, -1, 0) = UNKNOWN");
        doc.says("OUTSIDE;", two + "give(0) = 1; give(1) = 2; " + each("meet(0, 1, #)", "OUTSIDE", "-1", "4", "MIN", "MAX"));
        doc.says("STATE: one is not GIVEN.", two + "meet(0, 1, 0) = STATE; meet(0, 0, 0) = STATE; give(0) = 1; "
                + "meet(0, 1, 0) = STATE; meet(1, 0, 0) = STATE; give(1) = 2; meet(0, 1, 0) = 0; take(0) = 1; "
                + "meet(0, 1, 0) = STATE; meet(1, 0, 0) = STATE");
    }

    private static void bars() {
        String barred = PAIR + "ask(0, 1, 0, 1, 1, 1, 1) = 0; ask(1, 0, 0, 1, 1, 1, 1) = 1; give(0) = 1; ";
        doc.of("Promise 17");
        doc.says("How many THE BARS are", barred + "bars(1) = 1; about(0, 7) = 1; count(4) = 1",
                "air(6, 6) = 36; ask(0, 1, 0, 1, 1, 1, 1); ask(2, 3, 0, 1, 1, 1, 1); ask(4, 5, 0, 1, 1, 1, 1); "
                + "ask(8, 9, 0, 1, 1, 1, 1); giveAll(7) = 3; rule(1, 1) = 0; bars(3) = 1; bar(3, 0) = 1; rule(1, 2) = 1; "
                + "bars(3) = 3; bar(3, 0) = 0; bar(3, 1) = 1; bar(3, 2) = 2; bar(3, 3) = NONE");
        doc.says("(0: there is a SOONEST);", ASK + "bars(0) = 0; soonest(0) = 7", barred + "take(0) = 1; bars(1) = 0; "
                + "soonest(1) = 1");
        doc.says("NONE.", NO_WAY + "bars(0) = NONE", barred + "shut(1, 0, 0); bars(1) = NONE");
        doc.says("UNKNOWN;", unknownAsk("bars(#)"));
        doc.says("STATE: it is GIVEN.", barred + "bars(0) = STATE; take(0) = 1; bars(0) = 0");
        doc.of("Promise 18");
        doc.says("The i-th of THE BARS;", barred + "bar(1, 0) = 0; about(0, 7) = 1");
        doc.says("NONE.", barred + each("bar(1, #)", "NONE", "1", "2", "-1", "9", "10", "MIN", "MAX") + "shut(1, 0, 0); "
                + "bar(1, 0) = NONE", ASK + "bar(0, 0) = NONE", NO_WAY + "bar(0, 0) = NONE; bar(0, -1) = NONE");
        doc.says("UNKNOWN;", unknownAsk("bar(#, 0)"));
        doc.says("STATE.", barred + "bar(0, 0) = STATE; bar(0, 7) = STATE; bar(0, -1) = STATE");
    }

    /** Six asks that are all far from one another, each of which costs 1. */
    private static final String SIX = "air(6, 6) = 36; ask(0, 1, 0, 1, 1, 1, 1) = 0; ask(12, 13, 0, 1, 1, 1, 1) = 1; "
            + "ask(24, 25, 0, 1, 1, 1, 1) = 2; ask(4, 5, 0, 1, 1, 1, 1) = 3; ask(16, 17, 0, 1, 1, 1, 1) = 4; "
            + "ask(28, 29, 0, 1, 1, 1, 1) = 5; ";

    /** What the three calls with a set refuse. */
    private static String[] setRefusals(String call) {
        return new String[] {each(call, "OUTSIDE", "1", "2", "512", "-1", "MIN", "MAX"),
            SIX + each(call, "OUTSIDE", "64", "65", "127", "1024", "-1", "-2", "MIN", "MAX", "-32"),
            "10x ask(0, 1, 0, 1, 1, 1, 1); " + each(call, "OUTSIDE", "1024", "1025", "2048", "1023", "MIN")};
    }

    private static void atOnce() {
        doc.of("Promise 19");
        doc.says("What a set of ASKS (bits) COSTS AT ONCE in THE BEST ORDER.", SIX + "atOnce(0) = 0; atOnce(1) = 1; "
                + "atOnce(32) = 1; atOnce(33) = 2; atOnce(31) = 5; count(4) = 0; give(0) = 1; atOnce(62) = 5",
                "9x ask(0, 1, 0, 1, 1, 1, 1); ask(14, 15, 0, 1, 1, 9, 1) = 9; atOnce(512) = 9",
                "atOnce(0) = 0", NO_WAY + "atOnce(1) = 100; count(4) = 0");
        doc.says("OUTSIDE: a bit is no ASK,", setRefusals("atOnce(#)"));
        doc.says("or they are more than 5;", SIX + "atOnce(63) = OUTSIDE; atOnce(31) = 5; atOnce(47) = 5; "
                + "atOnce(62) = 5", "10x ask(0, 1, 0, 1, 1, 1, 1); atOnce(1023) = OUTSIDE; atOnce(1008) = OUTSIDE; "
                + "atOnce(992) = 401");
        doc.says("STATE: one is GIVEN.", SIX + "give(5) = 1; atOnce(32) = STATE; atOnce(33) = STATE; atOnce(31) = 5; "
                + "atOnce(0) = 0; take(5) = 1; atOnce(32) = 1");
    }

    private static void order() {
        doc.of("Promise 20");
        doc.says("The i-th ASK of THE BEST ORDER;", PAIR + "ask(0, 1, 0, 9, 9, 1, 1); ask(0, 1, 0, 9, 9, 9, 1); "
                + "order(3, 0) = 1; order(3, 1) = 0; count(4) = 0; order(1, 0) = 0; order(2, 0) = 1", SIX
                + "order(62, 0) = 1; order(62, 4) = 5; order(62, 5) = NONE", NO_WAY + "order(1, 0) = 0; order(1, 1) = NONE");
        doc.says("NONE.", SIX + each("order(31, #)", "NONE", "5", "6", "-1", "MIN", "MAX") + "order(31, 4) = 4; "
                + each("order(0, #)", "NONE", "0", "1", "-1") + each("order(4, #)", "NONE", "1", "2", "-1"));
        doc.says("As atOnce().", setRefusals("order(#, 0)"));
        doc.says("As atOnce().", SIX + "order(63, 0) = OUTSIDE; order(63, 9) = OUTSIDE; order(64, -1) = OUTSIDE; "
                + "give(5) = 1; order(32, 0) = STATE; order(33, 9) = STATE; order(31, 0) = 0");
    }

    private static void giveAll() {
        doc.of("Promise 21");
        doc.says("They are GIVEN in THE BEST ORDER: how many have a WAY.", SIX + "giveAll(0) = 0; count(4) = 0; "
                + "giveAll(31) = 5; count(4) = 5; about(5, 7) = 0; giveAll(32) = 1; count(4) = 6; count(5) = 6",
                PAIR + "ask(0, 1, 0, 1, 1, 1, 1); ask(0, 1, 0, 1, 1, 9, 1); ask(0, 1, 3, 6, 2, 2, 1); giveAll(7) = 2; "
                + "about(0, 7) = 0; about(1, 7) = 1; about(2, 7) = 1; where(1, 1) = 1; where(2, 4) = 1; giveAll(1) = 0; "
                + "about(0, 7) = 0", NO_WAY + "giveAll(1) = 0; about(0, 7) = 0; count(4) = 0");
        doc.says("As atOnce().", setRefusals("giveAll(#)"));
        doc.says("As atOnce().", SIX + "giveAll(63) = OUTSIDE; count(4) = 0; give(5) = 1; giveAll(32) = STATE; "
                + "giveAll(33) = STATE; count(4) = 1; about(0, 7) = 0; giveAll(31) = 5");
    }

    private static void silent() {
        doc.of("Promise 22");
        doc.says("A SILENT one is SEEN (instead of one that was): 1.", "silent(0, 0, 3) = 1; silent(5, 3, 0) = 1; "
                + "could(0) = 0; could(2) = 0; could(3) = 1; couldBe(5, 3) = 1; could(59) = 1; silent(5, 3, 0) = 1; "
                + "silent(15, 59, 3) = 1; could(3) = 0; could(59) = 1");
        doc.says("UNKNOWN;", unknownCell("silent(#, 0, 0)") + "could(0) = 0");
        doc.says("OUTSIDE: minute, speed.", noMinute("silent(0, #, 0)")
                + each("silent(0, 0, #)", "OUTSIDE", "-1", "4", "MIN", "MAX") + "could(0) = 0; could(59) = 0; "
                + "silent(0, 5, 0) = 1; silent(1, 60, 0) = OUTSIDE; silent(1, 0, 4) = OUTSIDE; could(0) = 0; could(5) = 1; "
                + "couldBe(0, 5) = 1; could(59) = 1");
    }

    private static void could() {
        doc.of("Promise 23");
        doc.says("In how many CELLS it COULD be at a MINUTE;", "silent(0, 0, 1) = 1; could(0) = 1; could(1) = 3; "
                + "could(5) = 15; could(6) = 16; could(59) = 16; silent(0, 56, 2) = 1; could(57) = 6; could(58) = 13; could(59) = 16; "
                + "silent(0, 56, 0) = 1; could(59) = 1");
        doc.says("0: none was SEEN, or later.", "could(0) = 0; could(59) = 0; silent(0, 7, 3) = 1; could(6) = 0; "
                + "could(0) = 0; could(7) = 1; air(4, 4) = 16; could(7) = 0; could(59) = 0");
        doc.says("OUTSIDE.", noMinute("could(#)") + "silent(0, 0, 0) = 1; " + noMinute("could(#)"));
        doc.of("Promise 24");
        doc.says("Whether it COULD be in a CELL at a MINUTE: 1, 0.", "couldBe(0, 0) = 0; couldBe(15, 59) = 0; "
                + "silent(5, 10, 1) = 1; couldBe(5, 9) = 0; couldBe(5, 10) = 1; couldBe(6, 10) = 0; couldBe(6, 11) = 1; "
                + "couldBe(0, 11) = 0; couldBe(0, 12) = 1; couldBe(15, 13) = 0; couldBe(15, 14) = 1; couldBe(15, 59) = 1");
        doc.says("UNKNOWN;", "silent(0, 0, 3) = 1; " + unknownCell("couldBe(#, 0)"));
        doc.says("OUTSIDE.", noMinute("couldBe(0, #)") + "silent(0, 0, 3) = 1; " + noMinute("couldBe(0, #)"));
    }

    private static void led() {
        String three = "ask(0, 3, 0, 20, 9, 1, 1) = 0; ask(8, 11, 5, 20, 9, 1, 1) = 1; ask(12, 15, 10, 20, 9, 1, 1) = 2; "
                + "giveAll(7) = 3; ";
        doc.of("Promise 25");
        doc.says("How many are LED OFF.", "ledOff() = 0; silent(0, 0, 3) = 1; ledOff() = 0; " + three + "ledOff() = 3; "
                + "silent(10, 3, 0) = 1; ledOff() = 1; silent(4, 0, 0) = 1; ledOff() = 0; silent(3, 3, 1) = 1; ledOff() = 3; "
                + "take(1) = 8; ledOff() = 2; take(0) = 3; take(2) = 13; ledOff() = 0");
        doc.of("Promise 26");
        doc.says("The i-th of them;", three + "silent(3, 3, 1) = 1; led(0) = 0; led(1) = 1; led(2) = 2; take(0) = 3; "
                + "led(0) = 1; led(1) = 2; led(2) = NONE; silent(12, 10, 0) = 1; led(0) = 2; led(1) = NONE");
        doc.says("NONE.", each("led(#)", "NONE", "0", "-1", "MIN", "MAX") + three + "led(0) = NONE; silent(3, 3, 1) = 1; "
                + each("led(#)", "NONE", "3", "4", "-1", "9", "10", "MIN", "MAX"));
        doc.of("Promise 27");
        doc.says("The first MINUTE at which a GIVEN one is where it COULD be;", three + "silent(8, 5, 0) = 1; ledAt(1) = 5; "
                + "silent(11, 8, 0) = 1; ledAt(1) = 8; silent(10, 3, 0) = 1; ledAt(1) = 7; silent(11, 5, 1) = 1; "
                + "ledAt(1) = 7; silent(0, 0, 3) = 1; ledAt(0) = 0", "ask(0, 1, 58, 59, 1, 1, 1) = 0; give(0) = 59; "
                + "silent(1, 0, 0) = 1; ledAt(0) = 59; silent(0, 0, 0) = 1; ledAt(0) = 58");
        doc.says("NONE: it is not LED OFF.", three + "ledAt(0) = NONE; silent(8, 6, 0) = 1; ledAt(1) = NONE; "
                + "silent(11, 9, 3) = 1; ledAt(1) = NONE; ledAt(0) = NONE; ledAt(2) = 11; silent(4, 0, 0) = 1; ledAt(2) = NONE");
        doc.says("UNKNOWN;", unknownAsk("ledAt(#)"), "silent(0, 0, 3) = 1; " + unknownAsk("ledAt(#)"));
        doc.says("STATE: it is not GIVEN.", ASK + "ledAt(0) = STATE; silent(0, 0, 3) = 1; ledAt(0) = STATE; give(0) = 7; "
                + "ledAt(0) = 5; take(0) = 7; ledAt(0) = STATE");
    }

    private static void ears() {
        doc.of("Promise 28");
        doc.says("EARS of a CELL: what it was.", "ears(0, 0) = 0; ears(0, 99) = 0; ears(0, 1) = 99; ears(1, 2) = 0; "
                + "ears(0, 0) = 1; ears(15, 99) = 0; ears(15, 99) = 99");
        doc.says("UNKNOWN;", unknownCell("ears(#, 0)"));
        doc.says("OUTSIDE.", "ears(0, 50) = 0; " + each("ears(0, #)", "OUTSIDE", "-1", "100", "MIN", "MAX")
                + "ears(0, 0) = 50");
    }

    private static void noise() {
        doc.of("Promise 29");
        doc.says("NOISE of a CELL.", "ears(0, 2); ears(15, 3); noise(0) = 0; ask(0, 1, 5, 9, 9, 1, 3) = 0; noise(0) = 0; "
                + "soonest(0) = 6; noise(0) = 0; give(0) = 6; noise(0) = 36; noise(15) = 0; noise(1) = 0; take(0) = 6; "
                + "noise(0) = 0");
        doc.says("UNKNOWN.", unknownCell("noise(#)"));
        doc.of("Promise 30");
        doc.says("THE WORST: NOISE (cell = false),", "worst(false) = 0; ears(6, 9); ask(5, 6, 0, 1, 1, 1, 2); "
                + "worst(false) = 0; give(0) = 1; worst(false) = 108; ears(5, 10); worst(false) = 120; take(0) = 1; "
                + "worst(false) = 0");
        doc.says("the CELL.", "worst(true) = 0; ears(6, 9); ears(5, 9); ask(6, 5, 0, 1, 1, 1, 2); worst(true) = 0; "
                + "give(0) = 1; worst(true) = 5; ears(6, 10); worst(true) = 6; ears(5, 0); ears(6, 0); worst(true) = 0",
                "air(6, 6) = 36; ears(35, 1); ask(34, 35, 0, 1, 1, 1, 1); give(0) = 1; worst(true) = 35; worst(false) = 6");
    }

    private static void quietest() {
        String round = "air(3, 3) = 9; ears(1, 9); ask(0, 2, 0, 20, 9, 1, 2) = 0; ";
        String barred = PAIR + "ask(0, 1, 0, 1, 1, 1, 1) = 0; ask(1, 0, 0, 1, 1, 1, 1) = 1; give(0) = 1; ";
        doc.of("Promise 31");
        doc.says("By how much NOISE grows by THE QUIETEST;", round + "quietest(0) = 108; giveQuiet(0) = 6; noise(1) = 108; "
                + "ask(6, 8, 40, 59, 2, 1, 9) = 1; quietest(1) = 0; ears(7, 1); quietest(1) = 72",
                ASK + "quietest(0) = 0; ears(15, 99); quietest(0) = 0; count(4) = 0",
                "air(2, 2) = 4; ears(0, 99); ears(1, 99); ears(2, 99); ears(3, 99); shut(0, 1, 59); shut(1, 0, 29); "
                + "ask(0, 1, 0, 30, 30, 1, 9) = 0; quietest(0) = 248589; give(0) = 30; worst(false) = 81081; "
                + "worst(true) = 3");
        doc.says("NONE: there is none.", NO_WAY + "quietest(0) = NONE", barred + "quietest(1) = NONE; take(0) = 1; "
                + "quietest(1) = 0");
        doc.says("UNKNOWN;", unknownAsk("quietest(#)"));
        doc.says("STATE: it is GIVEN.", round + "give(0) = 2; quietest(0) = STATE; take(0) = 2; quietest(0) = 108");
        doc.of("Promise 32");
        doc.says("How many minutes later than THE SOONEST it comes;", round + "soonest(0) = 2; price(0) = 4; "
                + "ears(1, 0) = 9; price(0) = 0", "air(3, 3) = 9; ears(1, 9); ask(0, 2, 0, 5, 9, 1, 2) = 0; price(0) = 0; "
                + "ask(0, 2, 0, 6, 6, 1, 2) = 1; price(1) = 4; ask(0, 2, 0, 6, 5, 1, 2) = 2; price(2) = 0; "
                + "ask(0, 2, 53, 59, 6, 1, 2) = 3; price(3) = 4");
        doc.says("NONE.", NO_WAY + "price(0) = NONE", barred + "price(1) = NONE; take(0) = 1; price(1) = 0");
        doc.says("UNKNOWN;", unknownAsk("price(#)"));
        doc.says("STATE.", round + "giveQuiet(0) = 6; price(0) = STATE; take(0) = 6; price(0) = 4");
    }

    private static void quietAt() {
        String round = "air(3, 3) = 9; ears(1, 9); ask(0, 2, 7, 20, 9, 1, 2) = 0; ";
        doc.of("Promise 33");
        doc.says("b of THE QUIETEST (what = 0),", round + each("quietAt(0, 0, #)", "7", "0", "1", "-1", "MIN", "MAX")
                + "shut(0, 0, 8); quietAt(0, 0, 0) = 9");
        doc.says("step i of it (1; NONE: there is no such);", round + "quietAt(0, 1, 0) = 1; quietAt(0, 1, 1) = 1; "
                + "quietAt(0, 1, 2) = 0; quietAt(0, 1, 3) = 0; quietAt(0, 1, 4) = 3; quietAt(0, 1, 5) = 3; "
                + each("quietAt(0, 1, #)", "NONE", "6", "7", "-1", "29", "30", "31", "MIN", "MAX"));
        doc.says("NONE: there is none.", NO_WAY + "quietAt(0, 0, 0) = NONE; quietAt(0, 1, 0) = NONE; "
                + "quietAt(0, 1, -1) = NONE", round + "quietAt(0, 0, 0) = 7; shut(2, 0, 59); quietAt(0, 0, 0) = NONE; "
                + "quietAt(0, 1, 0) = NONE");
        doc.says("UNKNOWN;", unknownAsk("quietAt(#, 0, 0)"), unknownAsk("quietAt(#, 1, 0)"));
        doc.says("OUTSIDE: what;", round + each("quietAt(0, #, 0)", "OUTSIDE", "-1", "2", "MIN", "MAX"), NO_WAY
                + "quietAt(0, 2, 0) = OUTSIDE");
        doc.says("STATE.", round + "give(0) = 9; quietAt(0, 0, 0) = STATE; quietAt(0, 1, 0) = STATE; "
                + "quietAt(0, 1, 9) = STATE");
    }

    private static void count() {
        doc.of("Promise 34");
        doc.says("0 CELLS,", "count(0) = 16; air(5, 6) = 30; count(0) = 30; air(7, 6) = OUTSIDE; count(0) = 30");
        doc.says("1 SHUTS,", "count(1) = 0; 3x shut(0, 0, 0); count(1) = 3; 17x shut(0, 0, 0); count(1) = 20; "
                + "shut(0, 0, 0) = FULL; count(1) = 20; count(2) = 0");
        doc.says("2 FOLK,", "count(2) = 0; 3x folk(0, 0, 0); count(2) = 3; 17x folk(0, 0, 0); count(2) = 20; "
                + "folk(0, 0, 0) = FULL; count(2) = 20; count(1) = 0");
        doc.says("3 ASKS,", "count(3) = 0; ask(0, 1, 0, 1, 1, 1, 1) = 0; count(3) = 1; give(0) = 1; count(3) = 1; "
                + "9x ask(0, 1, 0, 1, 1, 1, 1); count(3) = 10; ask(0, 1, 0, 1, 1, 1, 1) = FULL; count(3) = 10");
        doc.says("4 GIVEN ones,", "count(4) = 0; " + ASK + "count(4) = 0; give(0) = 7; count(4) = 1; give(0) = STATE; "
                + "count(4) = 1; take(0) = 7; count(4) = 0", SIX + "giveAll(31) = 5; count(4) = 5; give(5) = 1; count(4) = 6; "
                + "take(0) = 1; count(4) = 5");
        doc.says("5 MINUTES in the air of all GIVEN ones (e less b).", "count(5) = 0; " + ASK + "count(5) = 0; give(0) = 7; "
                + "count(5) = 2; ask(15, 14, 50, 59, 9, 1, 1) = 1; giveQuiet(1) = 51; count(5) = 3; take(0) = 7; "
                + "count(5) = 1; take(1) = 51; count(5) = 0");
        doc.says("OUTSIDE.", each("count(#)", "OUTSIDE", "-1", "6", "7", "MIN", "MAX"));
    }
}
