import java.util.ArrayDeque;
import java.util.ArrayList;
import java.util.HashMap;
import java.util.List;
import java.util.Map;
import java.util.TreeMap;

/** The document once more, in other ways than the class: maps for rows, search for sums, a list of TOKENS for a reader. */
final class Model {
    static final int BAD = -1, STATE = -2, FULL = -3, NONE = -9;

    /** A LINK: DELAY and how often it was used. */
    record Link(int delay, int used) { }

    /** A GUESS as it was MENDED, and when. */
    record Guess(int value, int when) { }

    /** All that part 2 changes. */
    static final class World {
        TreeMap<String, Link> links = new TreeMap<>();
        Map<String, Guess> guesses = new HashMap<>();
        Map<Integer, Integer> counts = new HashMap<>();
        Map<Integer, Integer> explored = new HashMap<>();
        List<Integer> way = null;
        int time = 0;

        World copy() {
            World other = new World();
            other.links.putAll(links);
            other.guesses.putAll(guesses);
            other.counts.putAll(counts);
            other.explored.putAll(explored);
            other.way = way == null ? null : new ArrayList<>(way);
            other.time = time;
            return other;
        }
    }

    private final Map<Character, Integer> rules = new HashMap<>();
    private World world = new World();
    private final ArrayDeque<World> past = new ArrayDeque<>();
    private final Map<Integer, World> images = new HashMap<>();
    private final List<int[]> seen = new ArrayList<>();
    private String text = "";

    Model() {
        atFirst(rules);
    }

    private static void atFirst(Map<Character, Integer> rules) {
        rules.putAll(Map.of('n', 2, 'x', 0, 'h', 0, 'a', 99, 'l', 60, 'f', 0));
    }

    // ---- words

    private static String name(int u, int v) {
        return Math.min(u, v) + "-" + Math.max(u, v);
    }

    private boolean isNode(int u) {
        return 0 <= u && u < rules.get('n');
    }

    private boolean pair(int u, int d) {
        return isNode(u) && isNode(d) && u != d;
    }

    private String linkName(int l) {
        return l < 0 || l >= world.links.size() ? null : new ArrayList<>(world.links.keySet()).get(l);
    }

    private List<Integer> neighbours(int u) {
        List<Integer> all = new ArrayList<>();
        for (int v = 0; v < rules.get('n'); v++) {
            if (u != v && world.links.containsKey(name(u, v))) {
                all.add(v);
            }
        }
        return all;
    }

    private int value(int u, int d, int v) {
        Guess g = world.guesses.get(u + ">" + d + "by" + v);
        return g == null || world.time - g.when() > rules.get('a') ? 64 * rules.get('f') : g.value();
    }

    private int when(int u, int d, int v) {
        Guess g = world.guesses.get(u + ">" + d + "by" + v);
        return g == null ? NONE : g.when();
    }

    private int bestOf(int u, int d) {
        return neighbours(u).stream().min((a, b) -> value(u, d, a) - value(u, d, b)).orElse(NONE);
    }

    // ---- what is told

    int type(int letter) {
        if (letter < 0 || letter > 255) {
            return BAD;
        }
        if (text.length() == 120) {
            return FULL;
        }
        text += (char) letter;
        return text.length();
    }

    int clear() {
        int had = text.length();
        text = "";
        return had;
    }

    int net() {
        List<String> tokens = new ArrayList<>();
        List<Integer> places = new ArrayList<>();
        java.util.regex.Matcher m = java.util.regex.Pattern.compile("[0-9]+|[^ ]", java.util.regex.Pattern.DOTALL).matcher(text);
        while (m.find()) {
            tokens.add(m.group());
            places.add(m.start());
        }
        Map<Character, Integer> told = new HashMap<>();
        atFirst(told);
        TreeMap<String, Link> links = new TreeMap<>();
        int items = 0;
        List<String> item = new ArrayList<>();
        for (int i = 0; i < tokens.size(); i++) {
            item.add(tokens.get(i));
            if (!stands(item, items, told, links)) {
                return -10 - places.get(i);
            }
            if (tokens.get(i).equals(";")) {
                take(item, told, links);
                items++;
                item.clear();
            }
        }
        if (!item.isEmpty()) {
            return -10 - text.length();
        }
        rules.putAll(told);
        world = new World();
        world.links = links;
        past.clear();
        images.clear();
        seen.clear();
        text = "";
        return items;
    }

    /** Whether the last of these TOKENS of one ITEM can stand there. */
    private static boolean stands(List<String> item, int items, Map<Character, Integer> told, Map<String, Link> links) {
        String kind = item.get(0);
        String last = item.get(item.size() - 1);
        int at = item.size() - 1;
        if (at == 0) {
            return kind.equals("n") ? items == 0 : kind.equals("e") ? links.size() < 10 : kind.matches("[xhalf]");
        }
        int numbers = kind.equals("e") ? 3 : 1;
        if (at > numbers) {
            return last.equals(";");
        }
        if (!last.matches("0|[1-9][0-9]?")) {
            return false;
        }
        int n = Integer.parseInt(last);
        if (kind.equals("e") && at <= 2) {
            int other = at == 2 ? Integer.parseInt(item.get(1)) : -1;
            return n < told.get('n') && n != other && !(at == 2 && links.containsKey(name(n, other)));
        }
        Map<String, int[]> bounds = Map.of("n", new int[] {2, 6}, "e", new int[] {1, 9}, "x", new int[] {0, 9},
            "h", new int[] {0, 3}, "a", new int[] {1, 99}, "l", new int[] {1, 99}, "f", new int[] {0, 99});
        return bounds.get(kind)[0] <= n && n <= bounds.get(kind)[1];
    }

    private static void take(List<String> item, Map<Character, Integer> told, Map<String, Link> links) {
        if (item.get(0).equals("e")) {
            String name = name(Integer.parseInt(item.get(1)), Integer.parseInt(item.get(2)));
            links.put(name, new Link(Integer.parseInt(item.get(3)), 0));
        } else {
            told.put(item.get(0).charAt(0), Integer.parseInt(item.get(1)));
        }
    }

    int link(int l, int what) {
        String name = linkName(l);
        if (name == null || what < 0 || what > 2) {
            return BAD;
        }
        return what == 2 ? world.links.get(name).delay() : name.charAt(2 * what) - '0';
    }

    // ---- what is done

    private void remember() {
        past.push(world.copy());
        if (past.size() > 8) {
            past.removeLast();
        }
    }

    private int send(int from, int goal) {
        int worth = 0;
        int u = from;
        world.way = new ArrayList<>(List.of(from));
        while (true) {
            List<Integer> all = neighbours(u);
            if (all.isEmpty()) {
                return NONE;
            }
            int count = world.counts.merge(u, 1, Integer::sum);
            int v = bestOf(u, goal);
            if (rules.get('x') > 0 && count % rules.get('x') == 0) {
                world.explored.merge(u, 1, Integer::sum);
                int here = u;
                v = all.stream().min((a, b) -> when(here, goal, a) - when(here, goal, b)).get();
            }
            world.time++;
            int delay = world.links.get(name(u, v)).delay();
            worth += delay;
            int told = 64 * delay + (v == goal ? 0 : value(v, goal, bestOf(v, goal)));
            int o = value(u, goal, v);
            int now = (int) (o + Math.floor((told - o) / Math.pow(2, rules.get('h'))));
            world.guesses.put(u + ">" + goal + "by" + v, new Guess(Math.min(now, 63936), world.time));
            world.links.computeIfPresent(name(u, v), (k, x) -> new Link(x.delay(), x.used() + 1));
            world.way.add(v);
            if (v == goal) {
                return worth;
            }
            if (worth > rules.get('l')) {
                return NONE;
            }
            u = v;
        }
    }

    int sends(int from, int goal) {
        if (!pair(from, goal)) {
            return BAD;
        }
        remember();
        return send(from, goal);
    }

    int rounds(int n) {
        if (n < 1 || n > 4) {
            return BAD;
        }
        remember();
        int nodes = rules.get('n');
        int through = 0;
        for (int i = 0; i < n * nodes * nodes; i++) {
            int from = i / nodes % nodes;
            int goal = i % nodes;
            through += from != goal && send(from, goal) != NONE ? 1 : 0;
        }
        return through;
    }

    int cuts(int l) {
        String name = linkName(l);
        if (name == null) {
            return BAD;
        }
        remember();
        world.links.remove(name);
        char lower = name.charAt(0);
        char other = name.charAt(2);
        world.guesses.keySet().removeIf(k -> k.charAt(0) == lower && k.endsWith("by" + other) || k.charAt(0) == other && k.endsWith("by" + lower));
        return world.links.size();
    }

    int lays(int u, int v, int delay) {
        if (!pair(u, v) || delay < 1 || delay > 9) {
            return BAD;
        }
        if (world.links.containsKey(name(u, v))) {
            return STATE;
        }
        if (world.links.size() == 10) {
            return FULL;
        }
        remember();
        world.links.put(name(u, v), new Link(delay, 0));
        return world.links.size();
    }

    int changes(int l, int delay) {
        String name = linkName(l);
        if (name == null || delay < 1 || delay > 9) {
            return BAD;
        }
        Link was = world.links.get(name);
        if (was.delay() == delay) {
            return STATE;
        }
        remember();
        world.links.put(name, new Link(delay, was.used()));
        return was.delay();
    }

    int undo() {
        if (past.isEmpty()) {
            return STATE;
        }
        world = past.pop();
        return past.size();
    }

    // ---- guesses

    private int refusal(int u, int d, int v) {
        return !pair(u, d) || !isNode(v) ? BAD : neighbours(u).contains(v) ? 0 : STATE;
    }

    int guess(int u, int d, int v) {
        return refusal(u, d, v) != 0 ? refusal(u, d, v) : value(u, d, v);
    }

    int mended(int u, int d, int v) {
        return refusal(u, d, v) != 0 ? refusal(u, d, v) : when(u, d, v);
    }

    int best(int u, int d) {
        return pair(u, d) ? bestOf(u, d) : BAD;
    }

    int node(int u, int what) {
        if (!isNode(u) || what < 0 || what > 2) {
            return BAD;
        }
        return what == 0 ? world.counts.getOrDefault(u, 0) : what == 1 ? world.explored.getOrDefault(u, 0) : neighbours(u).size();
    }

    int used(int l) {
        return linkName(l) == null ? BAD : world.links.get(linkName(l)).used();
    }

    // ---- ways

    int way(int k) {
        if (k < -1) {
            return BAD;
        }
        if (world.way == null || k >= world.way.size()) {
            return NONE;
        }
        return k < 0 ? world.way.size() - 1 : world.way.get(k);
    }

    private List<Integer> pathOf(int u, int d) {
        List<Integer> nodes = new ArrayList<>();
        int here = u;
        while (here != NONE && !nodes.contains(here)) {
            nodes.add(here);
            here = here == d ? NONE : bestOf(here, d);
        }
        return nodes;
    }

    private boolean arrives(int u, int d) {
        List<Integer> nodes = pathOf(u, d);
        return nodes.get(nodes.size() - 1) == d;
    }

    int path(int u, int d, int k) {
        if (!pair(u, d) || k < -1) {
            return BAD;
        }
        List<Integer> nodes = pathOf(u, d);
        return k < 0 ? nodes.size() : k < nodes.size() ? nodes.get(k) : NONE;
    }

    int astray(int d) {
        if (!isNode(d)) {
            return BAD;
        }
        int sum = 0;
        for (int u = 0; u < rules.get('n'); u++) {
            sum += u != d && !arrives(u, d) ? 1 : 0;
        }
        return sum;
    }

    /** By every way that goes nowhere twice; had is the NODES gone by (bits). */
    private int leastOf(int u, int d, String without, int had) {
        if (u == d) {
            return 0;
        }
        int found = NONE;
        for (int v : neighbours(u)) {
            if ((had & 1 << v) == 0 && !name(u, v).equals(without)) {
                int rest = leastOf(v, d, without, had | 1 << v);
                int sum = rest + world.links.get(name(u, v)).delay();
                if (rest != NONE && (found == NONE || sum < found)) {
                    found = sum;
                }
            }
        }
        return found;
    }

    int least(int u, int d) {
        return isNode(u) && isNode(d) ? leastOf(u, d, "", 1 << u) : BAD;
    }

    int right() {
        int sum = 0;
        for (int u = 0; u < rules.get('n'); u++) {
            for (int d = 0; d < rules.get('n'); d++) {
                if (u != d && arrives(u, d)) {
                    List<Integer> nodes = pathOf(u, d);
                    int delays = 0;
                    for (int i = 1; i < nodes.size(); i++) {
                        delays += world.links.get(name(nodes.get(i - 1), nodes.get(i))).delay();
                    }
                    sum += delays == least(u, d) ? 1 : 0;
                }
            }
        }
        return sum;
    }

    int hurt(int l) {
        if (linkName(l) == null) {
            return BAD;
        }
        int sum = 0;
        for (int u = 0; u < rules.get('n'); u++) {
            for (int d = 0; d < u; d++) {
                int one = leastOf(u, d, linkName(l), 1 << u);
                sum += 2 * (one == NONE ? 100 : one);
            }
        }
        return sum;
    }

    int worst() {
        int found = NONE;
        for (int l = world.links.size() - 1; l >= 0; l--) {
            if (found == NONE || hurt(l) >= hurt(found)) {
                found = l;
            }
        }
        return found;
    }

    // ---- which link

    int sees(int u, int d, int w) {
        if (!pair(u, d) || w < 0 || w > 99) {
            return BAD;
        }
        if (seen.size() == 6) {
            return FULL;
        }
        seen.add(new int[] {u, d, w});
        return seen.size();
    }

    int forget() {
        int had = seen.size();
        seen.clear();
        return had;
    }

    int unseen() {
        int bits = 0;
        for (int l = 0; l < world.links.size(); l++) {
            String without = linkName(l);
            boolean so = seen.stream().allMatch(s -> Math.max(0, leastOf(s[0], s[1], without, 1 << s[0])) == s[2]);
            bits += so ? 1 << l : 0;
        }
        return bits;
    }

    // ---- images

    int keep(int image) {
        if (image != 0 && image != 1) {
            return BAD;
        }
        images.put(image, world.copy());
        return world.links.size();
    }

    int back(int image) {
        if (image != 0 && image != 1) {
            return BAD;
        }
        if (!images.containsKey(image)) {
            return STATE;
        }
        world = images.get(image).copy();
        past.clear();
        return world.links.size();
    }

    int count(int what) {
        int[] all = {rules.get('n'), world.links.size(), rules.get('x'), rules.get('h'), rules.get('a'), rules.get('l'),
            rules.get('f'), world.time, seen.size(), text.length(), past.size()};
        return what >= 0 && what < all.length ? all[what] : BAD;
    }
}
