import java.util.ArrayList;
import java.util.HashMap;
import java.util.List;
import java.util.Map;
import java.util.function.Supplier;

/** What is refused changes nothing; what is asked changes nothing; what is UNDONE, back, read anew is wholly so. */
public final class SameTest {
    private static final Check check = new Check("SameTest");

    /** Something of each kind is there: GUESSES, IMAGES, SEEN, letters, what can be UNDONE; EdgesOfNumbers' LINKS. */
    private static final String RICH = EdgesOfNumbers.NET.trim() + " <n3;e0 1 2;e1 2 3;x2;h1;a9;f2;>=7 sends(0,2) keep(0) changes(0,5) rounds(1)"
        + " sees(0,1,2) sees(0,2,5) keep(1) sends(2,0) sends(1,2) type(120) type(49) type(59)";
    private static final String TEN = "<" + EdgesOfText.TEN + "x2;f3;> rounds(1) keep(0) cuts(0) lays(0,1,3) keep(1)";
    private static final String OTHER_TEXT = "<n3;e0 2 4;h2;l9;>";

    private SameTest() { }

    public static void main(String[] args) {
        Map<String, List<String>> had = new HashMap<>();
        for (Same same : rows()) {
            String wrong = firstWrong(same, AskedRoutes::new, had);
            check.holds(same.words() + ": " + same.run() + ": " + wrong, wrong == null);
        }
        check.end();
    }

    /** The answers behind the other run are kept for the rows that have the same one. */
    static String firstWrong(Same same, Supplier<?> maker, Map<String, List<String>> had) {
        Questions questions = new Questions(maker, same.nodes(), same.links());
        List<String> due = had.computeIfAbsent(same.nodes() + " " + same.links() + " " + same.other(), key -> questions.answersBehind(same.other()));
        return Questions.firstUnlike(questions.answersBehind(same.run()), due);
    }

    static List<Same> rows() {
        List<Same> rows = new ArrayList<>();
        refused(rows);
        full(rows);
        asked(rows);
        undone(rows);
        images(rows);
        readAnew(rows);
        rows.add(new Same("ROUNDS are LETTERS one by one", 3, 2, "<n3;e0 1 2;e1 2 3;x3;h1;f2;a7;> rounds(2) keep(0) back(0)",
            "<n3;e0 1 2;e1 2 3;x3;h1;f2;a7;> " + "sends(0,1) sends(0,2) sends(1,0) sends(1,2) sends(2,0) sends(2,1) ".repeat(2) + "keep(0) back(0)"));
        return rows;
    }

    private static void refused(List<Same> rows) {
        for (String call : EdgesOfNumbers.refused()) {
            rows.add(new Same("BAD: nothing changes", 3, 2, RICH + " " + call, RICH));
        }
        for (String call : List.of("lays(0,1,9)", "lays(2,1,9)", "changes(0,5)", "changes(1,3)", "guess(0,1,2)", "mended(2,1,0)")) {
            rows.add(new Same("STATE: nothing changes", 3, 2, RICH + " " + call, RICH));
        }
        String bare = "<n3;e0 1 2;e1 2 3;> type(32)";
        for (String call : List.of("undo()", "back(0)", "back(1)")) {
            rows.add(new Same("STATE: nothing changes", 3, 2, bare + " " + call, bare));
        }
        String kept = "<n3;e0 1 2;e1 2 3;> sends(0,2) keep(0) cuts(0)";
        rows.add(new Same("STATE: nothing changes", 3, 2, kept + " back(1)", kept));
        for (String letter : List.of("37", "59", "110", "48")) {
            rows.add(new Same("FAULT: nothing changes", 3, 2, RICH + " type(" + letter + ") net()", RICH + " type(" + letter + ")"));
        }
        String late = RICH + " clear() " + Script.typed("n3;e0 1 9;x1;h3;a1;l1;f9;%");
        rows.add(new Same("FAULT behind all else: nothing changes", 3, 2, late + "net()", late));
    }

    private static void full(List<Same> rows) {
        String text = "<n3;e0 1 2;e1 2 3;> sends(0,2) " + "type(32) ".repeat(119) + "type(37)";
        rows.add(new Same("FULL: nothing changes", 3, 2, text + " type(59)", text));
        rows.add(new Same("BAD ahead of FULL: nothing changes", 3, 2, text + " type(256)", text));
        String seen = RICH + " sees(0,1,2) sees(1,2,0) sees(2,0,0) sees(1,0,9)";
        rows.add(new Same("FULL: nothing changes", 3, 2, seen + " sees(0,1,99)", seen));
        rows.add(new Same("FULL: nothing changes", 6, 10, TEN + " lays(4,5,1)", TEN));
        rows.add(new Same("STATE ahead of FULL: nothing changes", 6, 10, TEN + " lays(3,2,9)", TEN));
    }

    private static void asked(List<Same> rows) {
        List<String> calls = Questions.calls(3, 2);
        int many = 60;
        for (int i = 0; i < calls.size(); i += many) {
            String some = String.join(" ", calls.subList(i, Math.min(calls.size(), i + many)));
            rows.add(new Same("Nothing is changed by what is asked", 3, 2, RICH + " " + some, RICH));
        }
    }

    private static void undone(List<Same> rows) {
        List<String> done = List.of("sends(0,2)", "sends(2,1)", "rounds(1)", "rounds(4)", "cuts(0)", "cuts(1)", "lays(0,2,4)", "changes(0,9)", "changes(1,1)",
            "sends(1,0) undo() rounds(1)", "cuts(1) undo() cuts(0)");
        for (String call : done) {
            rows.add(new Same("UNDONE: all is as it was", 3, 3, RICH + " " + call + " undo()", RICH));
        }
        rows.add(new Same("UNDONE: several", 3, 3, RICH + " cuts(0) lays(0,2,4) rounds(1) undo() undo() undo()", RICH));
        rows.add(new Same("UNDONE: eight", 3, 3, "<n3;e0 1 2;e1 2 3;> " + "rounds(1) ".repeat(8) + "undo() ".repeat(8), "<n3;e0 1 2;e1 2 3;>"));
        rows.add(new Same("UNDONE: of ten LINKS", 6, 10, TEN + " rounds(1) cuts(4) undo() undo()", TEN));
    }

    private static void images(List<Same> rows) {
        for (String image : List.of("0", "1")) {
            String kept = RICH + " keep(" + image + ") ";
            String back = "back(" + image + ")";
            for (String call : List.of("sends(0,2)", "rounds(2)", "cuts(0)", "lays(0,2,4)", "changes(0,9)", "undo()", "cuts(0) lays(0,1,5) rounds(1)", "back(0)", "back(1)")) {
                rows.add(new Same("IMAGES keep all that 2 changes", 3, 3, kept + call + " " + back, kept + back));
            }
            rows.add(new Same("An IMAGE is kept again", 3, 3, RICH + " cuts(1) keep(" + image + ") undo() keep(" + image + ") " + back, kept + back));
        }
    }

    private static void readAnew(List<Same> rows) {
        rows.add(new Same("Read anew: as told", 3, 2, RICH + " clear() " + OTHER_TEXT, OTHER_TEXT));
        rows.add(new Same("Read anew: else as at first", 3, 2, RICH + " clear() net()", ""));
        rows.add(new Same("Read anew: else as at first, of ten LINKS", 6, 10, TEN + " sees(0,1,1) net()", ""));
        rows.add(new Same("Read anew behind a FAULT", 3, 2, RICH + " clear() <n6;e5 4 9;x9;h3;a1;l1;f99;%> clear() " + OTHER_TEXT, OTHER_TEXT));
    }
}
