import java.util.ArrayList;
import java.util.HashSet;
import java.util.List;
import java.util.Set;

/** All promises: a run of calls for each boundary case that the document names, on the class and on the model. */
public final class EdgeTest {
    private static final Check check = new Check("EdgeTest");

    private EdgeTest() { }

    public static void main(String[] args) {
        Set<String> had = new HashSet<>();
        for (Edge edge : rows()) {
            Script script = new Script(edge.script());
            none(edge, "the class", script.firstWrong(new AskedRoutes()));
            none(edge, "the model", script.firstWrong(new Model()));
            check.holds(edge.words() + ": has an answer that is due", script.dues() > 0);
            check.holds(edge.words() + ": told once: " + edge.script(), had.add(edge.script()));
        }
        check.end();
    }

    static List<Edge> rows() {
        List<Edge> rows = new ArrayList<>(EdgesOfText.rows());
        rows.addAll(EdgesOfLetters.rows());
        rows.addAll(EdgesOfWays.rows());
        rows.addAll(EdgesOfNumbers.rows());
        return rows;
    }

    private static void none(Edge edge, String whose, String wrong) {
        check.holds(edge.words() + ", " + whose + ": " + wrong, wrong == null);
    }
}
