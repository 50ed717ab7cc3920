import java.io.IOException;

/** The document's Terms, sentence by sentence: for each boundary that they name a test of its own. */
public final class TermsTest {
    private static Sentences doc;

    /** 2 by 2 with the lower row shut: 0 and 1 alone. */
    private static final String PAIR = "air(2, 2) = 4; shut(2, 0, 59); shut(3, 0, 59); ";
    /** 3 by 2 with the lower row shut: 0, 1 and 2 in a row. */
    private static final String ROW = "air(3, 2) = 6; shut(3, 0, 59); shut(4, 0, 59); shut(5, 0, 59); ";

    public static void main(String[] args) throws IOException {
        doc = new Sentences("TermsTest");
        lifetime();
        doc.of("Terms");
        refusals();
        cells();
        downs();
        asks();
        ways();
        meeting();
        soonest();
        bars();
        atOnce();
        silentOnes();
        noise();
        quietest();
        doc.end();
    }

    private static void lifetime() {
        doc.in("What it is");
        StringBuilder run = new StringBuilder("ask(0, 1, 0, 59, 30, 1, 1) = 0; ");
        for (int k = 0; k < 255; k++) {
            run.append("give(0) = 1; take(0) = 1; ");
        }
        doc.says("An object is used for at most 512 calls after it has been made", run + "give(0) = 1");
        doc.quote("what later calls answer is free.");
        SmallFlyers x = new SmallFlyers();
        int sum = 0;
        for (int k = 0; k < 2000; k++) {
            sum += x.ask(k % 16, 15, 0, 59, 30, 1, 1) + x.give(k % 10) + x.shut(k % 16, 0, 0) + x.take(k % 10);
        }
        doc.checks().yes("later calls answer, whatever it is", sum != 1);
    }

    /** RefusedTest has the runs in which several refusals are due at once, and those that show what is changed. */
    private static void refusals() {
        doc.says("REFUSALS, of several the first that a call names:", "ask(16, 16, 0, 60, 1, 1, 1) = UNKNOWN; "
                + "ask(3, 3, 0, 60, 1, 1, 1) = OUTSIDE; 10x ask(0, 1, 0, 1, 1, 1, 1); "
                + "ask(3, 3, 0, 59, 1, 1, 1) = STATE; ask(3, 2, 0, 59, 1, 1, 1) = FULL");
        doc.says("UNKNOWN (there is no such CELL, ASK),", "open(15, 0) = 1; open(16, 0) = UNKNOWN; "
                + "open(-1, 0) = UNKNOWN; about(0, 0) = UNKNOWN; ask(0, 1, 0, 1, 1, 1, 1) = 0; about(0, 0) = 0; "
                + "about(1, 0) = UNKNOWN; about(-1, 0) = UNKNOWN");
        doc.says("OUTSIDE (another number is not as told),", "open(0, 60) = OUTSIDE; rule(2, 0) = OUTSIDE");
        doc.says("STATE (as told),", "ask(0, 1, 0, 1, 1, 1, 1) = 0; take(0) = STATE; give(0) = 1; give(0) = STATE");
        doc.says("FULL.", "20x shut(0, 0, 0); shut(0, 0, 0) = FULL");
        doc.says("What is refused changes nothing.", "20x shut(0, 0, 0); shut(1, 0, 0) = FULL; count(1) = 20; "
                + "open(1, 0) = 1; air(7, 2) = OUTSIDE; count(0) = 16; count(1) = 20");
        doc.says("NONE is -900009.", "led(0) = -900009; down(0, 0) = 0");
        doc.checks().due("NONE", SmallFlyers.NONE, -900009);
        doc.checks().due("UNKNOWN", SmallFlyers.UNKNOWN, -900001);
        doc.checks().due("OUTSIDE", SmallFlyers.OUTSIDE, -900002);
        doc.checks().due("STATE", SmallFlyers.STATE, -900003);
        doc.checks().due("FULL", SmallFlyers.FULL, -900004);
    }

    private static void cells() {
        doc.says("THE AIR has W by H CELLS (2 to 6 each;", "air(2, 2) = 4; open(3, 0) = 1; open(4, 0) = UNKNOWN; "
                + "air(6, 6) = 36; open(35, 0) = 1; open(36, 0) = UNKNOWN; air(2, 6) = 12; air(6, 2) = 12; "
                + "air(1, 2) = OUTSIDE; air(2, 1) = OUTSIDE; air(7, 6) = OUTSIDE; air(6, 7) = OUTSIDE; count(0) = 12");
        doc.says("4 by 4 at first)", "count(0) = 16; ask(3, 7, 0, 1, 1, 1, 1) = 0; soonest(0) = 1; "
                + "ask(3, 4, 0, 1, 1, 1, 1) = 1; soonest(1) = NONE");
        doc.says(", CELL y W + x,", "air(3, 2) = 6; ask(0, 3, 0, 1, 1, 1, 1) = 0; soonestAt(0, 1, 0) = 1; "
                + "ask(0, 1, 0, 1, 1, 1, 1) = 1; soonestAt(1, 1, 0) = 0; ask(5, 2, 0, 1, 1, 1, 1) = 2; "
                + "soonestAt(2, 1, 0) = 3; ask(5, 4, 0, 1, 1, 1, 1) = 3; soonestAt(3, 1, 0) = 2",
                "air(2, 3) = 6; ask(0, 2, 0, 1, 1, 1, 1) = 0; soonestAt(0, 1, 0) = 1; "
                + "ask(0, 3, 0, 1, 1, 1, 1) = 1; soonest(1) = NONE");
        doc.says("and MINUTES 0 to 59.", "shut(0, 0, 0) = 1; shut(1, 59, 59) = 2; open(0, 0) = 0; open(1, 59) = 0; "
                + "open(0, 59) = 1; open(1, 0) = 1; open(0, -1) = OUTSIDE; open(0, 60) = OUTSIDE",
                "ask(0, 1, 0, 1, 1, 1, 1) = 0; ask(0, 1, 58, 59, 1, 1, 1) = 1; give(0) = 1; give(1) = 59; "
                + "where(0, 0) = 0; where(1, 59) = 1; where(1, 60) = OUTSIDE; where(0, -1) = OUTSIDE");
        StringBuilder around = new StringBuilder("air(3, 3) = 9; ");
        int[] cells = {0, 1, 2, 3, 5, 6, 7, 8};
        for (int k = 0; k < cells.length; k++) {
            around.append("ask(4, ").append(cells[k]).append(", 0, 1, 1, 1, 1) = ").append(k).append("; soonest(")
                    .append(k).append(") = ").append(cells[k] % 2 == 1 ? "1; " : "NONE; ");
        }
        doc.says("CELLS are beside one another, if they have a side in common.", around.toString(),
                "air(3, 3) = 9; ask(2, 3, 0, 1, 1, 1, 1); ask(3, 2, 0, 1, 1, 1, 1); ask(0, 6, 0, 1, 1, 1, 1); "
                + "ask(6, 0, 0, 1, 1, 1, 1); ask(0, 2, 0, 1, 1, 1, 1); ask(8, 0, 0, 1, 1, 1, 1); soonest(0) = NONE; "
                + "soonest(1) = NONE; soonest(2) = NONE; soonest(3) = NONE; soonest(4) = NONE; soonest(5) = NONE");
        doc.says("SHUTS (20 at most):", "19x shut(1, 0, 0); shut(2, 0, 0) = 20; open(2, 0) = 0; shut(3, 0, 0) = FULL; "
                + "open(3, 0) = 1; count(1) = 20");
        doc.says("a CELL, from a MINUTE to a MINUTE.", "shut(5, 3, 5) = 1; open(5, 2) = 1; open(5, 3) = 0; "
                + "open(5, 4) = 0; open(5, 5) = 0; open(5, 6) = 1; open(4, 4) = 1; open(6, 4) = 1",
                "shut(5, 0, 59) = 1; open(5, 0) = 0; open(5, 59) = 0", "shut(5, 7, 7) = 1; open(5, 6) = 1; "
                + "open(5, 7) = 0; open(5, 8) = 1");
        doc.says("FOLK (20 at most), likewise.", "rule(0, 0) = 1; 19x folk(1, 0, 0); folk(2, 0, 0) = 20; open(2, 0) = 0; "
                + "folk(3, 0, 0) = FULL; open(3, 0) = 1; count(2) = 20",
                "rule(0, 0) = 1; folk(5, 3, 5) = 1; open(5, 2) = 1; open(5, 3) = 0; open(5, 4) = 0; open(5, 5) = 0; "
                + "open(5, 6) = 1; open(4, 4) = 1; open(6, 4) = 1");
    }

    private static void downs() {
        String crowd = "air(6, 2) = 12; ";
        for (int c = 1; c < 12; c++) {
            crowd += "folk(" + c + ", 0, 59); ";
        }
        doc.says("A DOWN from a CELL at a MINUTE: GLIDE steps at most (0 to 4; 1 at first),",
                crowd + "down(0, 9) = 0; down(1, 9) = 1; down(6, 9) = 1; down(2, 9) = NONE; down(7, 9) = NONE; "
                + "rule(0, 0) = 1; down(0, 9) = 0; down(1, 9) = NONE; rule(0, 4) = 0; down(4, 9) = 4; down(9, 9) = 4; "
                + "down(5, 9) = NONE; down(10, 9) = NONE; rule(0, 5) = OUTSIDE; rule(0, -1) = OUTSIDE; "
                + "down(5, 9) = NONE; rule(0, 3) = 4; down(3, 9) = 3; down(4, 9) = NONE");
        String until10 = "air(2, 2) = 4; folk(0, 0, 59); folk(2, 0, 59); folk(3, 0, 59); folk(1, 0, 10); ";
        doc.says("each to a CELL beside, one a minute,", until10 + "down(0, 10) = 1; down(0, 9) = NONE; "
                + "down(2, 20) = NONE; rule(0, 2) = 1; down(2, 20) = 2; down(2, 9) = 2; down(2, 8) = NONE; "
                + "down(0, 9) = NONE; rule(0, 3) = 2; down(0, 9) = 3; down(0, 8) = 3; down(0, 7) = NONE",
                "air(3, 2) = 6; folk(2, 0, 59); folk(5, 0, 59); folk(1, 0, 59); folk(4, 0, 59); folk(0, 0, 59); "
                + "down(2, 9) = NONE; down(0, 9) = 1; rule(0, 2) = 1; down(2, 9) = NONE; rule(0, 3) = 2; down(2, 9) = 3");
        doc.says("to a CELL where no FOLK are at the MINUTE when it comes there", "air(2, 2) = 4; folk(0, 0, 59); "
                + "folk(2, 0, 59); folk(3, 0, 59); folk(1, 5, 6); down(0, 3) = 1; down(0, 4) = NONE; down(0, 5) = NONE; "
                + "down(0, 6) = 1; shut(1, 0, 59) = 1; down(0, 6) = 1; down(0, 5) = NONE");
        doc.says("(no step: there and then;", "rule(0, 0) = 1; folk(0, 7, 7); down(0, 6) = 0; down(0, 7) = NONE; "
                + "down(0, 8) = 0; down(1, 7) = 0; rule(0, 1) = 0; down(0, 7) = 1; down(0, 6) = 0; shut(0, 6, 6); "
                + "down(0, 6) = 0");
        doc.says("behind MINUTE 59 there are none).", "air(2, 2) = 4; folk(0, 0, 59); folk(1, 0, 59); folk(2, 0, 59); "
                + "folk(3, 0, 59); down(0, 59) = 1; down(0, 58) = NONE; open(0, 59) = 1; open(0, 58) = 0; "
                + "rule(0, 4) = 1; down(3, 59) = 1; down(3, 58) = 2; down(3, 57) = 3; down(3, 56) = 4; down(3, 55) = NONE; "
                + "rule(0, 0) = 4; down(0, 59) = NONE; open(0, 59) = 0");
        doc.says("A CELL is OPEN at a MINUTE, if it is not SHUT then,", "shut(0, 5, 5); open(0, 4) = 1; open(0, 5) = 0; "
                + "open(0, 6) = 1; open(1, 5) = 1");
        doc.says("and there is a DOWN from it then.", until10 + "open(0, 10) = 1; open(0, 9) = 0; open(1, 10) = 0; "
                + "open(1, 11) = 1; open(3, 9) = 0; open(2, 20) = 0; shut(0, 10, 10) = 1; open(0, 10) = 0; open(0, 11) = 1");
    }

    private static void asks() {
        String ten = Script.forEach(10, "ask(0, 1, 0, 1, 1, 1, 1) = #; ");
        doc.says("ASKS 0, 1, .. (10 at most):", ten + "ask(0, 1, 0, 1, 1, 1, 1) = FULL; about(9, 1) = 1; "
                + "about(10, 1) = UNKNOWN; count(3) = 10; air(4, 4) = 16; ask(0, 1, 0, 1, 1, 1, 1) = 0");
        doc.says("FROM a CELL TO another one,", "ask(0, 0, 0, 1, 1, 1, 1) = STATE; ask(15, 15, 0, 1, 1, 1, 1) = STATE; "
                + "ask(0, 15, 0, 1, 1, 1, 1) = 0; ask(15, 0, 0, 1, 1, 1, 1) = 1");
        doc.says("EARLIEST and LATEST (MINUTES, EARLIEST less),", "ask(0, 1, 0, 59, 1, 1, 1) = 0; "
                + "ask(0, 1, 0, 1, 1, 1, 1) = 1; ask(0, 1, 58, 59, 1, 1, 1) = 2; ask(0, 1, 0, 0, 1, 1, 1) = OUTSIDE; "
                + "ask(0, 1, 59, 59, 1, 1, 1) = OUTSIDE; ask(0, 1, 1, 0, 1, 1, 1) = OUTSIDE; "
                + "ask(0, 1, 59, 60, 1, 1, 1) = OUTSIDE; ask(0, 1, -1, 0, 1, 1, 1) = OUTSIDE; count(3) = 3");
        doc.says("a CHARGE (1 to 30 minutes),", "ask(0, 1, 0, 1, 0, 1, 1) = OUTSIDE; ask(0, 1, 0, 1, 1, 1, 1) = 0; "
                + "ask(0, 1, 0, 1, 30, 1, 1) = 1; ask(0, 1, 0, 1, 31, 1, 1) = OUTSIDE; about(1, 4) = 30; about(0, 4) = 1");
        doc.says("a RANK (1 to 9),", "ask(0, 1, 0, 1, 1, 0, 1) = OUTSIDE; ask(0, 1, 0, 1, 1, 1, 1) = 0; "
                + "ask(0, 1, 0, 1, 1, 9, 1) = 1; ask(0, 1, 0, 1, 1, 10, 1) = OUTSIDE; about(1, 5) = 9; about(0, 5) = 1");
        doc.says("a HUM (1 to 9).", "ask(0, 1, 0, 1, 1, 1, 0) = OUTSIDE; ask(0, 1, 0, 1, 1, 1, 1) = 0; "
                + "ask(0, 1, 0, 1, 1, 1, 9) = 1; ask(0, 1, 0, 1, 1, 1, 10) = OUTSIDE; about(1, 6) = 9; about(0, 6) = 1");
    }

    private static void ways() {
        doc.says("A WAY for it: it is in FROM at a MINUTE b, no less than EARLIEST;",
                "shut(0, 6, 59); ask(0, 1, 5, 20, 9, 1, 1) = 0; soonest(0) = 6; soonestAt(0, 0, 0) = 5",
                "shut(0, 5, 59); ask(0, 1, 5, 20, 9, 1, 1) = 0; soonest(0) = NONE; quietest(0) = NONE; bars(0) = NONE",
                "ask(0, 1, 0, 20, 9, 1, 1) = 0; soonest(0) = 1; soonestAt(0, 0, 0) = 0");
        doc.says("from MINUTE to MINUTE it stays or goes to a CELL beside;",
                ROW + "shut(0, 1, 59); shut(2, 0, 3); ask(0, 2, 0, 59, 30, 1, 1) = 0; soonest(0) = 4; "
                + "soonestAt(0, 0, 0) = 0; soonestAt(0, 1, 0) = 0; soonestAt(0, 1, 1) = 4; soonestAt(0, 1, 2) = 4; "
                + "soonestAt(0, 1, 3) = 0; soonestAt(0, 1, 4) = NONE; give(0) = 4; where(0, 2) = 1; where(0, 3) = 1; "
                + "ask(0, 2, 0, 59, 30, 1, 1) = 1; bars(1) = 1; take(0) = 4; bars(1) = 0",
                "air(6, 6) = 36; ask(0, 35, 0, 59, 30, 1, 1) = 0; soonest(0) = 10; ask(0, 35, 0, 9, 30, 1, 1) = 1; "
                + "soonest(1) = NONE; ask(5, 6, 0, 59, 30, 1, 1) = 2; soonest(2) = 6");
        doc.says("in TO at a MINUTE e above b, no more than LATEST;", "ask(0, 3, 0, 3, 30, 1, 1) = 0; soonest(0) = 3; "
                + "quietAt(0, 0, 0) = 0; ask(0, 3, 0, 2, 30, 1, 1) = 1; soonest(1) = NONE; quietest(1) = NONE; "
                + "ask(0, 1, 58, 59, 1, 1, 1) = 2; soonest(2) = 59; soonestAt(2, 0, 0) = 58; "
                + "ask(0, 2, 58, 59, 2, 1, 1) = 3; soonest(3) = NONE; ask(0, 2, 57, 59, 2, 1, 1) = 4; soonest(4) = 59");
        String longest = "air(2, 2) = 4; shut(0, 1, 59); shut(1, 0, 29); ";
        doc.says("e less b is no more than CHARGE;", "ask(0, 3, 0, 59, 3, 1, 1) = 0; soonest(0) = 3; quietest(0) = 0; "
                + "ask(0, 3, 0, 59, 2, 1, 1) = 1; soonest(1) = NONE; quietest(1) = NONE; ask(0, 1, 0, 59, 1, 1, 1) = 2; "
                + "soonest(2) = 1", longest + "ask(0, 1, 0, 59, 30, 1, 1) = 0; soonest(0) = 30; soonestAt(0, 0, 0) = 0; "
                + "soonestAt(0, 1, 0) = 1; soonestAt(0, 1, 1) = 0; soonestAt(0, 1, 2) = 2; soonestAt(0, 1, 27) = 0; "
                + "soonestAt(0, 1, 28) = 4; soonestAt(0, 1, 29) = 3; soonestAt(0, 1, 30) = NONE; quietAt(0, 1, 28) = 4; "
                + "quietAt(0, 1, 29) = 3; quietAt(0, 1, 30) = NONE; give(0) = 30; where(0, 0) = 0; where(0, 29) = 3; "
                + "where(0, 30) = 1; where(0, 31) = NONE; count(5) = 30; take(0) = 30; giveQuiet(0) = 30; where(0, 30) = 1; "
                + "where(0, 1) = 2", longest + "ask(0, 1, 0, 59, 29, 1, 1) = 0; soonest(0) = NONE; quietest(0) = NONE");
        String rowAsk = "ask(0, 2, 0, 9, 9, 1, 1) = 0; ";
        doc.says("its CELLS are OPEN at their MINUTES, b and e with them.", ROW + rowAsk + "soonest(0) = 2",
                ROW + rowAsk + "shut(0, 0, 0); soonest(0) = 3; soonestAt(0, 0, 0) = 1; quietAt(0, 0, 0) = 1",
                ROW + rowAsk + "shut(2, 2, 2); soonest(0) = 3; soonestAt(0, 0, 0) = 1; quietAt(0, 0, 0) = 1",
                ROW + rowAsk + "shut(1, 1, 1); soonest(0) = 3; soonestAt(0, 0, 0) = 1; quietAt(0, 0, 0) = 1",
                ROW + rowAsk + "rule(0, 0) = 1; folk(0, 0, 0); soonest(0) = 3; quietAt(0, 0, 0) = 1",
                ROW + rowAsk + "rule(0, 0) = 1; folk(2, 2, 2); soonest(0) = 3; quietAt(0, 0, 0) = 1",
                ROW + rowAsk + "rule(0, 0) = 1; folk(1, 1, 1); soonest(0) = 3; quietAt(0, 0, 0) = 1",
                ROW + rowAsk + "folk(1, 1, 1); soonest(0) = 2");
        doc.says("(It is in the air from b to e.)", "ask(0, 2, 5, 9, 9, 1, 1) = 0; give(0) = 7; where(0, 4) = NONE; "
                + "where(0, 5) = 0; where(0, 6) = 1; where(0, 7) = 2; where(0, 8) = NONE; where(0, 0) = NONE; "
                + "where(0, 59) = NONE", "air(2, 2) = 4; ask(0, 1, 5, 6, 1, 1, 1) = 0; give(0) = 6; "
                + "ask(1, 3, 6, 7, 1, 1, 1) = 1; soonest(1) = NONE; ask(1, 3, 7, 8, 1, 1, 1) = 2; soonest(2) = 8; "
                + "ask(2, 0, 4, 5, 1, 1, 1) = 3; soonest(3) = NONE; ask(2, 0, 3, 4, 1, 1, 1) = 4; soonest(4) = 4");
    }

    private static void meeting() {
        doc.says("Two WAYS MEET, if at a MINUTE both are in the air", PAIR + "ask(0, 1, 0, 1, 1, 1, 1) = 0; "
                + "ask(0, 1, 1, 2, 1, 1, 1) = 1; ask(1, 0, 1, 2, 1, 1, 1) = 2; give(0) = 1; soonest(1) = 2; "
                + "soonest(2) = NONE", "rule(1, 3) = 0; ask(0, 1, 0, 1, 1, 1, 1) = 0; ask(0, 1, 1, 2, 1, 1, 1) = 1; "
                + "ask(0, 1, 2, 3, 1, 1, 1) = 2; give(0) = 1; soonest(1) = NONE; give(2) = 3; meet(0, 2, 3) = 0");
        StringBuilder down = new StringBuilder("air(6, 2) = 12; ");
        for (int k = 0; k < 6; k++) {
            down.append("ask(").append(k).append(", ").append(6 + k).append(", 0, 1, 1, 1, 1) = ").append(k).append("; ");
        }
        doc.says("with their CELLS NEAR (0 to 3; 0 at first) or less apart", down + "give(0) = 1; soonest(1) = 1; "
                + "rule(1, 1) = 0; soonest(1) = NONE; soonest(2) = 1; rule(1, 2) = 1; soonest(1) = NONE; "
                + "soonest(2) = NONE; soonest(3) = 1; rule(1, 3) = 2; soonest(1) = NONE; soonest(3) = NONE; soonest(4) = 1; "
                + "rule(1, 4) = OUTSIDE; rule(1, -1) = OUTSIDE; soonest(4) = 1",
                down + "giveAll(31) = 5; give(5) = 1; meet(0, 1, 0) = 0; meet(0, 1, 1) = 1; meet(0, 2, 1) = 0; "
                + "meet(0, 2, 2) = 1; meet(0, 3, 2) = 0; meet(0, 3, 3) = 1; meet(0, 4, 3) = 0; meet(5, 0, 3) = 0; "
                + "meet(5, 2, 3) = 1; meet(0, 1, 3) = 1");
        doc.says("(the greater of both differences, of x and of y),", "air(6, 6) = 36; ask(0, 1, 0, 1, 1, 1, 1) = 0; "
                + "ask(8, 9, 0, 1, 1, 1, 1) = 1; ask(19, 20, 0, 1, 1, 1, 1) = 2; give(0) = 1; rule(1, 1) = 0; "
                + "soonest(1) = 1; rule(1, 2) = 1; soonest(1) = NONE; soonest(2) = 1; rule(1, 3) = 2; soonest(2) = NONE; "
                + "rule(1, 0) = 3; give(1) = 1; give(2) = 1; meet(0, 1, 1) = 0; meet(0, 1, 2) = 1; meet(0, 2, 2) = 0; "
                + "meet(0, 2, 3) = 1; meet(2, 1, 1) = 0; meet(2, 1, 2) = 1");
        String words = "or if from one MINUTE to the next they change CELLS with one another.";
        doc.says(words, change(0, 1), change(1, 0), change(0, 2), change(2, 0));
        doc.says(words, comesIn(1), comesIn(3), comesIn(5), comesIn(7));
        doc.says(words, "air(2, 2) = 4; ask(0, 1, 0, 1, 1, 1, 1); ask(2, 3, 0, 1, 1, 1, 1); giveAll(3) = 2; "
                + "ask(1, 0, 0, 1, 1, 1, 1) = 2; ask(3, 2, 0, 1, 1, 1, 1) = 3; soonest(2) = NONE; soonest(3) = NONE; "
                + "quietest(2) = NONE; quietest(3) = NONE; meet(0, 1, 0) = 0");
        doc.says(words, ROW + "ask(1, 2, 0, 1, 1, 1, 1); ask(0, 1, 0, 1, 1, 1, 1); give(0) = 1; give(1) = 1; "
                + "meet(0, 1, 0) = 0; meet(1, 0, 0) = 0; meet(0, 1, 1) = 1");
        doc.says(words, "ask(0, 3, 0, 3, 3, 1, 1); ask(0, 3, 1, 4, 3, 1, 1); give(0) = 3; give(1) = 4; where(1, 2) = 1; "
                + "where(0, 2) = 2; meet(0, 1, 0) = 0; meet(1, 0, 0) = 0; meet(1, 0, 1) = 1");
        doc.says(words, "air(2, 2) = 4; ask(0, 1, 0, 1, 1, 1, 1) = 0; give(0) = 1; "
                + "ask(1, 3, 0, 1, 1, 1, 1) = 1; soonest(1) = 1; ask(2, 0, 0, 1, 1, 1, 1) = 2; soonest(2) = 1; "
                + "ask(1, 0, 2, 3, 1, 1, 1) = 3; soonest(3) = 3; ask(3, 2, 0, 1, 1, 1, 1) = 4; soonest(4) = 1");
    }

    /** One goes from a cell to another; the other one cannot come the other way at the same minute. */
    private static String change(int one, int other) {
        return "air(2, 2) = 4; ask(" + one + ", " + other + ", 3, 4, 1, 1, 1) = 0; ask(" + other + ", " + one
                + ", 3, 4, 1, 1, 1) = 1; soonest(1) = 4; give(0) = 4; soonest(1) = NONE; quietest(1) = NONE; bars(1) = 1; "
                + "bar(1, 0) = 0; atOnce(2) = 100; ask(" + other + ", " + one + ", 5, 6, 1, 1, 1) = 2; soonest(2) = 6";
    }

    /** One comes from a cell beside into 4 of 3 by 3: another leaves 4 for any cell beside but that one. */
    private static String comesIn(int from) {
        StringBuilder run = new StringBuilder("air(3, 3) = 9; ask(" + from + ", 4, 0, 1, 1, 1, 1) = 0; give(0) = 1; ");
        for (int k = 1; k <= 4; k++) {
            int to = 2 * k - 1;
            run.append("ask(4, ").append(to).append(", 0, 1, 1, 1, 1) = ").append(k).append("; ");
            for (String call : new String[] {"soonest(", "giveQuiet("}) {
                String none = call.equals("soonest(") ? "NONE; " : "STATE; ";
                run.append(call).append(k).append(") = ").append(to == from ? none : "1; ");
            }
            run.append(to == from ? "" : "meet(0, " + k + ", 0) = 0; take(" + k + ") = 1; ");
        }
        return run.toString();
    }

    private static void soonest() {
        doc.says("ASKS are GIVEN a WAY, or not.", "ask(0, 1, 0, 9, 9, 1, 1) = 0; about(0, 7) = 0; where(0, 0) = STATE; "
                + "give(0) = 1; about(0, 7) = 1; where(0, 0) = 0; take(0) = 1; about(0, 7) = 0; where(0, 0) = STATE");
        doc.says("THE SOONEST for an ASK that is not: a WAY that MEETS no GIVEN one, with the least e;",
                PAIR + "ask(0, 1, 0, 9, 9, 1, 1) = 0; ask(0, 1, 0, 9, 9, 1, 1) = 1; soonest(1) = 1; give(0) = 1; "
                + "soonest(1) = 2; soonestAt(1, 0, 0) = 1; give(1) = 2; ask(0, 1, 0, 9, 9, 1, 1) = 2; soonest(2) = 3");
        doc.says("of like ones the greatest b;", "air(2, 2) = 4; shut(1, 0, 5); ask(0, 1, 0, 59, 30, 1, 1) = 0; "
                + "soonest(0) = 6; soonestAt(0, 0, 0) = 5; soonestAt(0, 1, 0) = 0; soonestAt(0, 1, 1) = NONE; "
                + "shut(0, 5, 5); soonest(0) = 6; soonestAt(0, 0, 0) = 3; soonestAt(0, 1, 0) = 1");
        String square = "air(3, 3) = 9; ";
        doc.says("of like ones the first by steps, one by one: 0 x more, 1 y more, 2 x less, 3 y less, 4 it stays.",
                square + "ask(0, 8, 0, 9, 9, 1, 1); " + steps(0, 0, 1, 1), square + "ask(8, 0, 0, 9, 9, 1, 1); "
                + steps(2, 2, 3, 3), square + "ask(2, 6, 0, 9, 9, 1, 1); " + steps(1, 1, 2, 2),
                square + "ask(6, 2, 0, 9, 9, 1, 1); " + steps(0, 0, 3, 3),
                square + "shut(0, 1, 59); shut(2, 0, 3); ask(0, 2, 0, 9, 9, 1, 1); " + steps(0, 1, 0, 3),
                square + "shut(8, 1, 59); shut(6, 0, 3); ask(8, 6, 0, 9, 9, 1, 1); " + steps(2, 3, 1, 2),
                "air(2, 4) = 8; shut(1, 0, 59); shut(3, 0, 59); shut(5, 0, 59); shut(7, 0, 59); shut(6, 1, 59); "
                + "shut(0, 0, 3); ask(6, 0, 0, 9, 9, 1, 1); " + steps(3, 3, 4, 3));
    }

    /** The soonest of ask 0 begins at minute 0 and has just these steps; so has the quietest, as there are no ears. */
    private static String steps(int... due) {
        StringBuilder text = new StringBuilder("soonest(0) = " + due.length + "; soonestAt(0, 0, 0) = 0; ");
        for (int i = 0; i < due.length; i++) {
            text.append("soonestAt(0, 1, ").append(i).append(") = ").append(due[i]).append("; ");
            text.append("quietAt(0, 1, ").append(i).append(") = ").append(due[i]).append("; ");
        }
        return text + "soonestAt(0, 1, " + due.length + ") = NONE; soonestAt(0, 1, -1) = NONE";
    }

    private static void bars() {
        String ring = "air(3, 3) = 9; shut(4, 0, 59); ";
        doc.says("THE BARS of an ASK that is not GIVEN: as few GIVEN ones as can be, without which there would be a WAY "
                + "for it;", ring + "ask(5, 2, 1, 2, 1, 1, 1); ask(2, 1, 0, 1, 1, 1, 1); ask(0, 8, 0, 4, 4, 1, 1); "
                + "ask(6, 3, 0, 1, 1, 1, 1); bars(2) = 0; give(0) = 2; give(1) = 1; bars(2) = 0; bar(2, 0) = NONE; "
                + "give(3) = 1; soonest(2) = NONE; bars(2) = 1; bar(2, 0) = 3; bar(2, 1) = NONE; bars(0) = STATE");
        doc.says("of as many the first by numbers.", ring + "ask(2, 1, 0, 1, 1, 1, 1); ask(6, 3, 0, 1, 1, 1, 1); "
                + "ask(7, 6, 1, 2, 1, 1, 1); ask(5, 2, 1, 2, 1, 1, 1); ask(0, 8, 0, 4, 4, 1, 1); give(0) = 1; give(1) = 1; "
                + "give(2) = 2; give(3) = 2; bars(4) = 2; bar(4, 0) = 0; bar(4, 1) = 3; bar(4, 2) = NONE",
                ring + "ask(6, 3, 0, 1, 1, 1, 1); ask(2, 1, 0, 1, 1, 1, 1); ask(0, 8, 0, 4, 4, 1, 1); give(1) = 1; "
                + "give(0) = 1; bars(2) = 1; bar(2, 0) = 0; take(0) = 1; bars(2) = 0");
        StringBuilder nine = new StringBuilder("air(6, 6) = 36; ");
        for (int k = 0; k < 9; k++) {
            int from = 2 * k < 14 ? 2 * k : 2 * k + 2;
            nine.append("ask(").append(from).append(", ").append(from + 1).append(", 0, 1, 1, 1, 1) = ").append(k)
                    .append("; give(").append(k).append(") = 1; ");
        }
        nine.append("ask(14, 15, 0, 1, 1, 1, 1) = 9; bars(9) = 0; rule(1, 3) = 0; bars(9) = 9; ");
        nine.append(Script.forEach(9, "bar(9, #) = #; "));
        doc.says("NONE: there is no WAY without all of them.", nine + "bar(9, 9) = NONE; shut(14, 0, 0); bars(9) = NONE; "
                + "bar(9, 0) = NONE", "ask(0, 15, 0, 5, 30, 1, 1) = 0; bars(0) = NONE; bar(0, 0) = NONE");
    }

    private static void atOnce() {
        String far = "air(6, 6) = 36; ask(0, 1, 0, 1, 1, 1, 1); ask(12, 13, 0, 1, 1, 1, 1); ask(24, 25, 0, 1, 1, 1, 1); "
                + "ask(4, 5, 0, 1, 1, 1, 1); ask(16, 17, 0, 1, 1, 1, 1); ask(28, 29, 0, 1, 1, 1, 1); ";
        doc.says("AT ONCE: ASKS of a set (5 at most, none of them GIVEN)", far + "atOnce(31) = 5; atOnce(62) = 5; "
                + "atOnce(63) = OUTSIDE; order(63, 0) = OUTSIDE; giveAll(63) = OUTSIDE; count(4) = 0; give(5) = 1; "
                + "atOnce(32) = STATE; atOnce(33) = STATE; atOnce(31) = 5; giveAll(31) = 5; count(4) = 6",
                "atOnce(0) = 0; order(0, 0) = NONE; giveAll(0) = 0");
        doc.says("in an order, one by one: each has its SOONEST then, or is LEFT OUT, if there is none.",
                PAIR + "ask(0, 1, 0, 9, 9, 1, 1); ask(0, 1, 0, 9, 9, 1, 1); ask(0, 1, 0, 2, 9, 1, 1); atOnce(3) = 3; "
                + "atOnce(7) = 6; order(7, 0) = 0; order(7, 1) = 2; order(7, 2) = 1; giveAll(7) = 3; where(0, 1) = 1; "
                + "where(2, 2) = 1; where(1, 3) = 1",
                PAIR + "ask(0, 1, 0, 1, 9, 1, 1); ask(0, 1, 0, 1, 9, 1, 1); atOnce(3) = 101; giveAll(3) = 1; "
                + "about(0, 7) = 1; about(1, 7) = 0");
        doc.says("It COSTS RANK times (e less EARLIEST) of those that have,", "ask(0, 1, 5, 20, 9, 7, 1) = 0; atOnce(1) = 7; "
                + "ask(12, 15, 40, 59, 9, 9, 1) = 1; atOnce(2) = 27; atOnce(3) = 34; shut(15, 0, 58); atOnce(2) = 171");
        doc.says("RANK times 100 of those LEFT OUT.", "ask(0, 15, 0, 5, 9, 9, 1) = 0; atOnce(1) = 900; order(1, 0) = 0; "
                + "ask(0, 15, 0, 5, 9, 1, 1) = 1; atOnce(2) = 100; atOnce(3) = 1000; giveAll(3) = 0");
        doc.says("THE BEST ORDER costs least;", PAIR + "ask(0, 1, 0, 9, 9, 1, 1); ask(0, 1, 0, 9, 9, 9, 1); "
                + "ask(0, 1, 0, 9, 9, 5, 1); atOnce(7) = 22; order(7, 0) = 1; order(7, 1) = 2; order(7, 2) = 0; "
                + "order(7, 3) = NONE; order(7, -1) = NONE");
        doc.says("of like ones the first by ASKS.", PAIR + "ask(0, 1, 0, 9, 9, 3, 1); ask(0, 1, 0, 9, 9, 3, 1); "
                + "ask(0, 1, 0, 9, 9, 3, 1); atOnce(7) = 18; order(7, 0) = 0; order(7, 1) = 1; order(7, 2) = 2; "
                + "atOnce(6) = 9; order(6, 0) = 1; order(6, 1) = 2; order(6, 2) = NONE");
    }

    private static void silentOnes() {
        doc.says("A SILENT one was SEEN in a CELL at a MINUTE;", "silent(0, 0, 0) = 1; couldBe(0, 0) = 1; could(0) = 1; "
                + "silent(15, 59, 3) = 1; could(58) = 0; could(59) = 1; couldBe(15, 59) = 1; couldBe(0, 59) = 0");
        doc.says("it has a SPEED (0 to 3).", "air(6, 6) = 36; silent(0, 0, 0) = 1; could(1) = 1; could(59) = 1; "
                + "silent(0, 0, 1) = 1; could(1) = 3; silent(0, 0, 2) = 1; could(1) = 6; silent(0, 0, 3) = 1; "
                + "could(1) = 10; silent(0, 0, 4) = OUTSIDE; silent(0, 0, -1) = OUTSIDE; could(1) = 10");
        doc.says("It COULD be there then (whatever is SHUT);", "shut(5, 0, 59); silent(5, 7, 1) = 1; could(6) = 0; "
                + "could(7) = 1; couldBe(5, 7) = 1; couldBe(5, 6) = 0");
        doc.says("in each next MINUTE wherever it comes by SPEED steps at most, each to a CELL beside, from where it COULD be,",
                "air(6, 6) = 36; silent(0, 49, 1) = 1; could(50) = 3; could(51) = 6; could(52) = 10; could(53) = 15; "
                + "could(54) = 21; could(55) = 26; could(56) = 30; could(57) = 33; could(58) = 35; could(59) = 36; "
                + "couldBe(7, 50) = 0; couldBe(6, 50) = 1; couldBe(1, 50) = 1; couldBe(0, 50) = 1",
                "air(3, 3) = 9; silent(2, 0, 1) = 1; couldBe(3, 1) = 0; couldBe(1, 1) = 1; couldBe(5, 1) = 1; could(1) = 3; "
                + "silent(3, 0, 1) = 1; couldBe(2, 1) = 0; could(1) = 4");
        doc.says("through CELLS that are not SHUT in that MINUTE", "air(3, 2) = 6; shut(1, 1, 1); shut(4, 1, 1); "
                + "silent(0, 0, 3) = 1; could(1) = 2; could(2) = 6", "air(3, 2) = 6; shut(1, 0, 0); shut(3, 0, 0); "
                + "silent(0, 0, 1) = 1; could(1) = 3", "air(3, 2) = 6; shut(1, 1, 1); silent(0, 0, 2) = 1; "
                + "couldBe(1, 1) = 0; couldBe(4, 1) = 1; couldBe(2, 1) = 0; silent(0, 0, 3) = 1; couldBe(5, 1) = 1; "
                + "couldBe(2, 1) = 0", "air(2, 2) = 4; rule(0, 0) = 1; folk(1, 0, 59); folk(2, 0, 59); open(1, 1) = 0; "
                + "silent(0, 0, 1) = 1; could(1) = 3; could(2) = 4; ask(3, 1, 0, 1, 1, 1, 1); rule(0, 1) = 0; give(0) = 1; "
                + "could(1) = 3; could(2) = 4");
        doc.says("(where it stays it may be SHUT).", "shut(5, 0, 59); silent(5, 0, 0) = 1; couldBe(5, 59) = 1; "
                + "silent(5, 0, 1) = 1; couldBe(5, 1) = 1; could(1) = 5; couldBe(5, 2) = 1; silent(4, 0, 1) = 1; "
                + "couldBe(5, 59) = 0; could(59) = 15", "shut(6, 1, 59); silent(5, 0, 1) = 1; couldBe(6, 59) = 0",
                "shut(6, 2, 59); silent(5, 0, 1) = 1; couldBe(6, 1) = 1; couldBe(6, 2) = 1; couldBe(6, 59) = 1");
        String flown = "ask(0, 3, 0, 20, 9, 1, 1) = 0; give(0) = 3; ";
        doc.says("LED OFF is a GIVEN one that at a MINUTE no earlier", flown + "silent(1, 2, 0) = 1; ledOff() = 0; "
                + "ledAt(0) = NONE; silent(1, 1, 0) = 1; ledOff() = 1; ledAt(0) = 1; silent(1, 0, 0) = 1; ledAt(0) = 1; "
                + "silent(0, 0, 0) = 1; ledAt(0) = 0; silent(0, 1, 0) = 1; ledAt(0) = NONE",
                "ask(0, 1, 58, 59, 1, 1, 1) = 0; give(0) = 59; silent(1, 59, 0) = 1; ledAt(0) = 59; ledOff() = 1");
        doc.says("is in the air in a CELL where it COULD be.", flown + "silent(3, 3, 0) = 1; ledAt(0) = 3; led(0) = 0; "
                + "silent(3, 4, 3) = 1; ledAt(0) = NONE; ledOff() = 0; led(0) = NONE; silent(7, 2, 0) = 1; ledOff() = 0; "
                + "silent(7, 2, 1) = 1; ledAt(0) = 3; take(0) = 3; ledOff() = 0; ledAt(0) = STATE");
    }

    private static void noise() {
        doc.says("EARS of a CELL: 0 to 99 (0 at first).", "ears(0, 99) = 0; ears(0, 0) = 99; ears(0, 100) = OUTSIDE; "
                + "ears(0, -1) = OUTSIDE; ears(0, 1) = 0; ears(15, 0) = 0");
        String ears = "air(3, 3) = 9; " + Script.forEach(9, "ears(#, 1) = 0; ");
        doc.says("A WAY in a CELL for a MINUTE SOUNDS 4 there, 2 in CELLS beside, 1 in those that touch it by a corner, "
                + "times HUM.", ears + "ask(4, 5, 0, 1, 1, 1, 1); give(0) = 1; noise(0) = 1; noise(1) = 3; noise(2) = 3; "
                + "noise(3) = 2; noise(4) = 6; noise(5) = 6; noise(6) = 1; noise(7) = 3; noise(8) = 3",
                ears + "ask(2, 1, 0, 1, 1, 1, 9); quietest(0) = 189; give(0) = 1; noise(2) = 54; noise(1) = 54; "
                + "noise(3) = 9; noise(0) = 18; noise(5) = 27; noise(4) = 27; noise(6) = 0; noise(7) = 0; noise(8) = 0");
        doc.says("NOISE of a CELL: all that GIVEN ones SOUND there from b to e, times EARS.",
                "ears(0, 99) = 0; ask(0, 1, 0, 1, 1, 1, 1); noise(0) = 0; give(0) = 1; noise(0) = 594; noise(1) = 0; "
                + "ask(0, 1, 50, 59, 1, 1, 9); give(1) = 51; noise(0) = 5940; take(0) = 1; noise(0) = 5346; "
                + "ears(0, 1) = 99; noise(0) = 54; take(1) = 51; noise(0) = 0");
        doc.says("THE WORST: greatest NOISE, of like ones the least CELL.", "worst(false) = 0; worst(true) = 0; "
                + "ears(15, 5); ears(14, 5); ask(14, 15, 0, 1, 1, 1, 1); give(0) = 1; worst(false) = 30; worst(true) = 14; "
                + "ears(15, 6) = 5; worst(false) = 36; worst(true) = 15; ears(14, 7) = 5; worst(true) = 14; "
                + "worst(false) = 42; take(0) = 1; worst(true) = 0; worst(false) = 0",
                "ears(0, 9); ears(2, 1); ask(4, 5, 0, 1, 1, 1, 1); give(0) = 1; noise(0) = 27; noise(1) = 0; noise(2) = 1; "
                + "worst(true) = 0; worst(false) = 27; ears(1, 10); worst(true) = 1; worst(false) = 30; ears(1, 9) = 10; "
                + "worst(true) = 0");
    }

    private static void quietest() {
        String round = "air(3, 3) = 9; ears(1, 9); ask(0, 2, 0, 20, 9, 1, 2) = 0; ";
        doc.says("THE QUIETEST for an ASK that is not GIVEN: of all its WAYS that MEET no GIVEN one",
                round + "quietest(0) = 108; ask(6, 7, 2, 3, 1, 1, 1) = 1; give(1) = 3; ask(0, 2, 0, 6, 6, 1, 2) = 2; "
                + "quietest(2) = 144; take(1) = 3; quietest(2) = 108; giveQuiet(2) = 6; quietest(2) = STATE",
                PAIR + "ask(0, 1, 0, 1, 1, 1, 1); ask(1, 0, 0, 1, 1, 1, 1); give(0) = 1; quietest(1) = NONE");
        doc.says("that by which NOISE of all CELLS together grows least;", round + "soonest(0) = 2; quietAt(0, 0, 0) = 0; "
                + "quietAt(0, 1, 0) = 1; quietAt(0, 1, 1) = 1; quietAt(0, 1, 2) = 0; quietAt(0, 1, 3) = 0; "
                + "quietAt(0, 1, 4) = 3; quietAt(0, 1, 5) = 3; quietAt(0, 1, 6) = NONE; ears(7, 99) = 0; "
                + "quietest(0) = 144; price(0) = 0");
        doc.says("of like ones the least e,", "ask(0, 3, 4, 59, 30, 1, 9) = 0; quietest(0) = 0; price(0) = 0; "
                + "giveQuiet(0) = 7", PAIR + "ears(0, 1); ask(0, 1, 4, 59, 30, 1, 1) = 0; quietest(0) = 6; "
                + "giveQuiet(0) = 5", "air(3, 3) = 9; ears(1, 10); ears(7, 2); ask(0, 2, 0, 20, 9, 1, 1) = 0; "
                + "quietest(0) = 80; price(0) = 0; quietAt(0, 1, 0) = 0; ears(7, 1) = 2; quietest(0) = 70; price(0) = 4");
        doc.says("then the greatest b,", "air(2, 2) = 4; shut(1, 0, 5); ask(0, 1, 0, 59, 30, 1, 1) = 0; "
                + "quietest(0) = 0; quietAt(0, 0, 0) = 5; quietAt(0, 1, 0) = 0; quietAt(0, 1, 1) = NONE",
                "air(2, 2) = 4; shut(1, 0, 5); shut(0, 5, 5); ask(0, 1, 0, 59, 30, 1, 1) = 0; quietAt(0, 0, 0) = 3");
        doc.says("then the first by steps.", "air(3, 3) = 9; ask(6, 2, 0, 9, 9, 1, 1); quietAt(0, 1, 0) = 0; "
                + "quietAt(0, 1, 1) = 0; quietAt(0, 1, 2) = 3; quietAt(0, 1, 3) = 3; quietAt(0, 1, 4) = NONE",
                "air(2, 2) = 4; ears(0, 3); ears(3, 3); ask(0, 3, 0, 9, 9, 1, 1); quietAt(0, 1, 0) = 0; "
                + "quietAt(0, 1, 1) = 1", "air(2, 2) = 4; ears(0, 3); ears(3, 3); ask(3, 0, 0, 9, 9, 1, 1); "
                + "quietAt(0, 1, 0) = 2; quietAt(0, 1, 1) = 3");
    }
}
