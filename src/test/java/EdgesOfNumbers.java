import java.util.ArrayList;
import java.util.LinkedHashSet;
import java.util.List;
import java.util.Set;

/** Each number of each call that may be BAD: just below, just above, and as far away as an int can be. */
final class EdgesOfNumbers {
    /** Two LINKS, three NODES; the text ahead of each run. */
    static final String NET = "<n3;e0 1 2;e1 2 3;>=3 ";

    private static final String[] FAR = {"-2147483648", "2147483647", "-2147483647", "-65536", "65536"};

    private EdgesOfNumbers() { }

    static List<Edge> rows() {
        List<Edge> rows = new ArrayList<>();
        for (String call : refused()) {
            rows.add(new Edge("BAD (a number is not as told, or there is no such thing)", NET + call + "=BAD"));
        }
        for (String call : accepted()) {
            rows.add(new Edge("a number is as told", NET + call));
        }
        return rows;
    }

    /** Calls that are BAD for NET, whatever was done to its GUESSES, TEXT, SEEN. */
    static Set<String> refused() {
        Set<String> calls = new LinkedHashSet<>();
        one(calls, "type(?)", "-1", "256");
        one(calls, "link(?,0)", "-1", "2");
        one(calls, "link(0,?)", "-1", "3");
        one(calls, "sends(?,0)", "-1", "3", "0");
        one(calls, "sends(0,?)", "-1", "3", "0");
        one(calls, "sends(2,?)", "2");
        one(calls, "rounds(?)", "-1", "0", "5");
        one(calls, "cuts(?)", "-1", "2");
        one(calls, "lays(?,2,5)", "-1", "3", "2");
        one(calls, "lays(0,?,5)", "-1", "3", "0");
        one(calls, "lays(0,2,?)", "-1", "0", "10");
        one(calls, "changes(?,5)", "-1", "2");
        one(calls, "changes(0,?)", "-1", "0", "10");
        for (String name : new String[] {"guess", "mended"}) {
            one(calls, name + "(?,2,1)", "-1", "3", "2");
            one(calls, name + "(0,?,1)", "-1", "3", "0");
            one(calls, name + "(0,2,?)", "-1", "3");
        }
        one(calls, "best(?,0)", "-1", "3", "0");
        one(calls, "best(0,?)", "-1", "3", "0");
        one(calls, "node(?,0)", "-1", "3");
        one(calls, "node(0,?)", "-1", "3");
        one(calls, "used(?)", "-1", "2");
        calls.addAll(List.of("way(-2)", "way(-2147483648)", "way(-2147483647)", "way(-9)"));
        one(calls, "path(?,0,-1)", "-1", "3", "0");
        one(calls, "path(0,?,-1)", "-1", "3", "0");
        calls.addAll(List.of("path(0,1,-2)", "path(0,1,-2147483648)", "path(0,1,-2147483647)", "path(0,1,-9)"));
        one(calls, "astray(?)", "-1", "3");
        one(calls, "least(?,0)", "-1", "3");
        one(calls, "least(0,?)", "-1", "3");
        one(calls, "hurt(?)", "-1", "2");
        one(calls, "sees(?,0,1)", "-1", "3", "0");
        one(calls, "sees(0,?,1)", "-1", "3", "0");
        one(calls, "sees(0,1,?)", "-1", "100");
        one(calls, "keep(?)", "-1", "2");
        one(calls, "back(?)", "-1", "2");
        one(calls, "count(?)", "-1", "11");
        return calls;
    }

    private static void one(Set<String> calls, String call, String... near) {
        for (String number : near) {
            calls.add(call.replace("?", number));
        }
        for (String number : FAR) {
            calls.add(call.replace("?", number));
        }
    }

    /** The least and the most of each number, where it is not refused. */
    private static List<String> accepted() {
        return List.of("type(0)=1", "type(255)=1", "link(0,0)=0", "link(1,2)=3", "sends(0,1)=2", "sends(2,0)=5", "sends(1,2)=7",
            "rounds(1)=6", "rounds(4)=24", "cuts(0)=1", "cuts(1)=1", "lays(0,2,1)=3", "lays(2,0,9)=3", "changes(0,1)=2", "changes(1,9)=3",
            "guess(0,2,1)=0", "guess(2,0,1)=0", "mended(0,2,1)=NONE", "mended(2,0,1)=NONE", "best(0,2)=1", "best(2,0)=1",
            "node(0,0)=0", "node(2,2)=1", "used(0)=0", "used(1)=0", "way(-1)=NONE", "way(2147483647)=NONE", "path(0,2,-1)=2",
            "path(2,0,2147483647)=NONE", "astray(0)=0", "astray(2)=2", "least(0,2)=5", "least(2,0)=5", "hurt(0)=406", "hurt(1)=404",
            "sees(0,2,0)=1", "sees(2,0,99)=1", "keep(0)=2", "keep(1)=2", "back(0)=STATE", "back(1)=STATE", "count(0)=3", "count(10)=0");
    }
}
