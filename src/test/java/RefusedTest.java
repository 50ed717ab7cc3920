import java.io.IOException;
import java.util.ArrayList;
import java.util.List;

/** What the Terms say of refusals, for every call that refuses: which of several is answered, and that none changes. */
public final class RefusedTest {
    private static Sentences doc;

    /** Something of everything is told; SHUTS, FOLK and ASKS are full; 0, 2, 3 are GIVEN, 1 has no WAY. */
    private static final String FULL_TOWN = "air(5, 4) = 20; rule(0, 2) = 1; rule(1, 1) = 0; shut(7, 3, 9); shut(8, 0, 59); "
            + "18x shut(12, 20, 30); folk(6, 0, 40); folk(13, 5, 50); 18x folk(19, 0, 59); ears(0, 9); ears(11, 99); "
            + "ears(19, 3); silent(2, 4, 1) = 1; ask(0, 4, 0, 20, 9, 5, 2) = 0; ask(0, 19, 0, 6, 30, 4, 1) = 1; "
            + "ask(15, 18, 2, 30, 12, 3, 9) = 2; ask(10, 11, 5, 59, 30, 2, 3) = 3; ask(0, 4, 0, 4, 4, 9, 1) = 4; "
            + "ask(19, 15, 3, 40, 8, 1, 5) = 5; ask(2, 17, 0, 59, 30, 6, 6) = 6; ask(3, 0, 1, 15, 30, 7, 1) = 7; "
            + "ask(5, 14, 9, 59, 20, 8, 2) = 8; ask(9, 10, 30, 59, 9, 9, 9) = 9; give(0); giveQuiet(2); give(3); ";

    public static void main(String[] args) throws IOException {
        doc = new Sentences("RefusedTest");
        doc.in("Terms");
        firstOfSeveral();
        changesNothing();
        doc.end();
    }

    private static void firstOfSeveral() {
        String words = "REFUSALS, of several the first that a call names";
        for (String call : new String[] {"shut", "folk"}) {
            doc.says(words, call + "(16, 60, 0) = UNKNOWN; 20x " + call + "(0, 0, 0); " + call + "(16, 0, 0) = UNKNOWN; "
                    + call + "(-1, 1, 0) = UNKNOWN; " + call + "(0, 1, 0) = OUTSIDE; " + call + "(0, 0, 60) = OUTSIDE; "
                    + call + "(0, -1, 0) = OUTSIDE; " + call + "(0, 0, 0) = FULL");
        }
        doc.says(words, "down(16, 60) = UNKNOWN; open(-1, -1) = UNKNOWN; couldBe(16, 60) = UNKNOWN; ears(16, 100) = UNKNOWN; "
                + "silent(16, 60, 4) = UNKNOWN; silent(-1, 0, 4) = UNKNOWN; silent(16, 60, 0) = UNKNOWN; "
                + "silent(0, 60, 4) = OUTSIDE");
        doc.says(words, "ask(16, 0, 1, 0, 0, 0, 0) = UNKNOWN; ask(0, 16, 1, 0, 0, 0, 0) = UNKNOWN; "
                + "ask(16, 16, 0, 1, 1, 1, 1) = UNKNOWN; ask(-1, -1, 0, 60, 1, 1, 1) = UNKNOWN; "
                + "ask(3, 3, 1, 1, 1, 1, 1) = OUTSIDE; ask(3, 3, 0, 1, 0, 1, 1) = OUTSIDE; ask(3, 3, 0, 1, 1, 0, 1) = OUTSIDE; "
                + "ask(3, 3, 0, 1, 1, 1, 0) = OUTSIDE; ask(3, 3, 0, 1, 1, 1, 1) = STATE; 10x ask(0, 1, 0, 1, 1, 1, 1); "
                + "ask(16, 16, 0, 0, 1, 1, 1) = UNKNOWN; ask(0, 16, 0, 1, 1, 1, 1) = UNKNOWN; "
                + "ask(3, 3, 0, 1, 31, 1, 1) = OUTSIDE; ask(0, 1, 0, 1, 1, 10, 1) = OUTSIDE; "
                + "ask(3, 3, 0, 1, 1, 1, 1) = STATE; ask(0, 1, 0, 1, 1, 1, 1) = FULL");
        doc.says(words, "about(0, 8) = UNKNOWN; soonestAt(0, 2, 0) = UNKNOWN; quietAt(0, 2, 0) = UNKNOWN; "
                + "where(0, 60) = UNKNOWN; meet(0, 0, 4) = UNKNOWN; ask(0, 1, 0, 1, 1, 1, 1) = 0; about(1, -1) = UNKNOWN; "
                + "soonestAt(1, -1, 0) = UNKNOWN; quietAt(1, -1, 0) = UNKNOWN; where(1, -1) = UNKNOWN; "
                + "meet(0, 1, 4) = UNKNOWN; meet(1, 0, -1) = UNKNOWN; meet(0, 1, 0) = UNKNOWN; meet(1, 0, 0) = UNKNOWN; "
                + "where(0, 60) = OUTSIDE; meet(0, 0, 4) = OUTSIDE; meet(0, 0, 0) = STATE; where(0, 0) = STATE; give(0) = 1; "
                + "soonestAt(0, 2, 0) = OUTSIDE; quietAt(0, 2, 0) = OUTSIDE; soonestAt(0, 1, 0) = STATE; "
                + "quietAt(0, 1, 0) = STATE; ask(0, 1, 5, 6, 1, 1, 1) = 1; meet(0, 1, 4) = OUTSIDE; meet(0, 1, 3) = STATE");
        for (String call : new String[] {"atOnce(#)", "order(#, 0)", "giveAll(#)"}) {
            StringBuilder run = new StringBuilder("7x ask(0, 1, 0, 59, 1, 1, 1); give(0) = 1; ");
            for (String set : new String[] {"129", "63", "-1", "127"}) {
                run.append(call.replace("#", set)).append(" = OUTSIDE; ");
            }
            doc.says(words, run + call.replace("#", "31") + " = STATE; " + call.replace("#", "1") + " = STATE");
        }
    }

    private static void changesNothing() {
        doc.quote("What is refused changes nothing.");
        Checks checks = doc.checks();
        List<String> refused = new ArrayList<>();
        refused.addAll(refusedInTheAir());
        refused.addAll(refusedOfAsks());
        refused.addAll(refusedElsewhere());
        String probes = probes();
        List<Integer> due = Script.run(checks, "nothing refused", FULL_TOWN + "count(0); " + probes);
        for (String call : refused) {
            List<Integer> got = Script.run(checks, "refused", FULL_TOWN + call + "; " + probes);
            int from = got.size() - probes.split(";").length;
            checks.yes(call + " changes nothing", got.size() == due.size()
                    && got.subList(from, got.size()).equals(due.subList(from, due.size())));
        }
        checks.yes("each call that refuses is there", refused.size() > 60);
    }

    private static List<String> refusedInTheAir() {
        return List.of("air(1, 4) = OUTSIDE", "air(4, 1) = OUTSIDE", "air(7, 4) = OUTSIDE", "air(4, 7) = OUTSIDE",
                "shut(20, 0, 59) = UNKNOWN", "shut(0, 9, 8) = OUTSIDE", "shut(0, 0, 60) = OUTSIDE", "shut(0, -1, 9) = OUTSIDE",
                "shut(0, 0, 59) = FULL", "folk(-1, 0, 59) = UNKNOWN", "folk(0, 9, 8) = OUTSIDE", "folk(0, 0, 60) = OUTSIDE",
                "folk(0, -1, 9) = OUTSIDE", "folk(0, 0, 59) = FULL", "rule(0, 5) = OUTSIDE", "rule(0, -1) = OUTSIDE",
                "rule(1, 4) = OUTSIDE", "rule(1, -1) = OUTSIDE", "rule(2, 0) = OUTSIDE", "rule(-1, 0) = OUTSIDE",
                "down(20, 0) = UNKNOWN", "down(0, 60) = OUTSIDE", "open(20, 0) = UNKNOWN", "open(0, 60) = OUTSIDE");
    }

    private static List<String> refusedOfAsks() {
        return List.of("ask(20, 0, 0, 9, 9, 1, 1) = UNKNOWN", "ask(0, 20, 0, 9, 9, 1, 1) = UNKNOWN",
                "ask(0, 1, 9, 9, 9, 1, 1) = OUTSIDE", "ask(0, 1, 0, 9, 31, 1, 1) = OUTSIDE", "ask(0, 1, 0, 9, 9, 0, 1) = OUTSIDE",
                "ask(0, 1, 0, 9, 9, 1, 10) = OUTSIDE", "ask(1, 1, 0, 9, 9, 1, 1) = STATE", "ask(0, 1, 0, 9, 9, 1, 1) = FULL",
                "about(10, 0) = UNKNOWN", "about(0, 8) = OUTSIDE", "soonest(10) = UNKNOWN", "soonest(0) = STATE",
                "soonestAt(10, 0, 0) = UNKNOWN", "soonestAt(5, 2, 0) = OUTSIDE", "soonestAt(2, 1, 0) = STATE",
                "give(10) = UNKNOWN", "give(-1) = UNKNOWN", "give(0) = STATE", "give(2) = STATE", "give(1) = STATE",
                "giveQuiet(10) = UNKNOWN", "giveQuiet(2) = STATE", "giveQuiet(3) = STATE", "giveQuiet(1) = STATE",
                "take(10) = UNKNOWN", "take(1) = STATE", "take(5) = STATE", "where(10, 0) = UNKNOWN", "where(0, 60) = OUTSIDE",
                "where(5, 0) = STATE", "meet(0, 10, 0) = UNKNOWN", "meet(0, 2, 4) = OUTSIDE", "meet(0, 5, 0) = STATE",
                "bars(10) = UNKNOWN", "bars(0) = STATE", "bar(10, 0) = UNKNOWN", "bar(0, 0) = STATE", "atOnce(1024) = OUTSIDE",
                "atOnce(1008) = OUTSIDE", "atOnce(33) = STATE", "order(1024, 0) = OUTSIDE", "order(1008, 0) = OUTSIDE",
                "order(33, 0) = STATE", "giveAll(1056) = OUTSIDE", "giveAll(1008) = OUTSIDE", "giveAll(-1) = OUTSIDE",
                "giveAll(33) = STATE", "giveAll(100) = STATE");
    }

    private static List<String> refusedElsewhere() {
        return List.of("silent(20, 0, 0) = UNKNOWN", "silent(0, 60, 0) = OUTSIDE", "silent(0, -1, 0) = OUTSIDE",
                "silent(0, 0, 4) = OUTSIDE", "silent(0, 0, -1) = OUTSIDE", "could(60) = OUTSIDE", "couldBe(20, 0) = UNKNOWN",
                "couldBe(0, 60) = OUTSIDE", "ledAt(10) = UNKNOWN", "ledAt(1) = STATE", "ears(20, 5) = UNKNOWN",
                "ears(11, 100) = OUTSIDE", "ears(11, -1) = OUTSIDE", "noise(20) = UNKNOWN", "quietest(10) = UNKNOWN",
                "quietest(0) = STATE", "price(10) = UNKNOWN", "price(2) = STATE", "quietAt(10, 0, 0) = UNKNOWN",
                "quietAt(5, 2, 0) = OUTSIDE", "quietAt(0, 1, 0) = STATE", "count(6) = OUTSIDE", "count(-1) = OUTSIDE");
    }

    /** Calls that show all that is told; those that change something come last. */
    private static String probes() {
        return Script.forEach(6, "count(#); ")
                + Script.forEach(10, "about(#, 0); about(#, 1); about(#, 2); about(#, 3); about(#, 4); about(#, 5); about(#, 6); "
                + "about(#, 7); soonest(#); soonestAt(#, 0, 0); quietest(#); bars(#); bar(#, 0); ledAt(#); ")
                + Script.forEach(12, "where(0, #); where(2, #); where(3, #); open(7, #); open(19, #); could(#); ")
                + Script.forEach(20, "couldBe(#, 6); open(#, 25); down(#, 7); noise(#); ")
                + "atOnce(992); order(992, 0); ledOff(); led(0); worst(true); worst(false); meet(0, 2, 3); "
                + Script.forEach(20, "ears(#, 0); ") + "rule(0, 0); rule(1, 0)";
    }
}
