import java.util.ArrayList;
import java.util.List;
import java.util.function.Supplier;

/** All that can be asked of a state: if all answers behind two runs are the same, both left the same behind them. */
final class Questions {
    /** What lets out the rest of a state: what can be UNDONE, the IMAGES, THE TEXT. */
    private static final List<String> TAILS = tails();
    private static final int AT_ONCE = 200;

    private final Supplier<?> maker;
    private final List<String> chunks = new ArrayList<>();

    Questions(Supplier<?> maker, int nodes, int links) {
        this.maker = maker;
        List<String> calls = calls(nodes, links);
        for (int i = 0; i < calls.size(); i += AT_ONCE) {
            chunks.add(String.join(" ", calls.subList(i, Math.min(calls.size(), i + AT_ONCE))));
        }
    }

    private static List<String> tails() {
        List<String> tails = new ArrayList<>(List.of("", "back(0) ", "back(1) ", "net() ", "clear() net() "));
        for (int i = 1; i <= 9; i++) {
            tails.add("undo() ".repeat(i));
        }
        return tails;
    }

    /** Calls that only ask. */
    static List<String> calls(int nodes, int links) {
        List<String> calls = new ArrayList<>(List.of("right()", "worst()", "unseen()"));
        for (int i = 0; i <= 10; i++) {
            calls.add("count(" + i + ")");
        }
        for (int k = -1; k <= 12; k++) {
            calls.add("way(" + k + ")");
        }
        calls.add("way(100)");
        for (int l = 0; l < links; l++) {
            calls.addAll(List.of("link(" + l + ",0)", "link(" + l + ",1)", "link(" + l + ",2)", "used(" + l + ")", "hurt(" + l + ")"));
        }
        for (int u = 0; u < nodes; u++) {
            calls.addAll(List.of("node(" + u + ",0)", "node(" + u + ",1)", "node(" + u + ",2)", "astray(" + u + ")"));
            for (int d = 0; d < nodes; d++) {
                addPair(calls, u, d, nodes);
            }
        }
        return calls;
    }

    private static void addPair(List<String> calls, int u, int d, int nodes) {
        String pair = "(" + u + "," + d;
        calls.addAll(List.of("best" + pair + ")", "least" + pair + ")", "path" + pair + ",-1)", "path" + pair + ",1)", "path" + pair + ",2)"));
        for (int v = 0; v < nodes; v++) {
            calls.addAll(List.of("guess" + pair + "," + v + ")", "mended" + pair + "," + v + ")"));
        }
    }

    /** Every answer behind a run, each of new objects that are not used for too many calls. */
    List<String> answersBehind(String run) {
        List<String> all = new ArrayList<>();
        for (String tail : TAILS) {
            for (String chunk : chunks) {
                Script ahead = new Script(run + " " + tail);
                Script asked = new Script(chunk);
                if (ahead.calls() + asked.calls() > Script.MOST_CALLS) {
                    throw new IllegalStateException("too many calls: " + run);
                }
                Object target = maker.get();
                ahead.firstWrong(target);
                for (String answer : asked.answers(target)) {
                    all.add(tail + answer);
                }
            }
        }
        return all;
    }

    /** The first answer that is not the same behind both runs; null: there is none. */
    static String firstUnlike(List<String> some, List<String> others) {
        for (int i = 0; i < some.size(); i++) {
            if (!some.get(i).equals(others.get(i))) {
                return some.get(i) + ", the other one: " + others.get(i);
            }
        }
        return null;
    }
}
