import java.util.Arrays;

/** Routes learnt by asking back; ../shared/DOC.md has the promises, and its words in capitals are used here. */
public final class AskedRoutes {
    public static final int BAD = -1, STATE = -2, FULL = -3, NONE = -9;

    private static final int MOST_NODES = 6;
    private static final int MOST_LINKS = 10;
    private static final int MOST_DELAY = 9;
    private static final int MOST_LETTERS = 120;
    private static final int MOST_ROUNDS = 4;
    private static final int MOST_SEEN = 6;
    private static final int MOST_UNDONE = 8;
    private static final int IMAGES = 2;
    private static final int PAIRS = MOST_NODES * MOST_NODES;
    private static final int GUESSES = PAIRS * MOST_NODES;
    // A HOP is worth 1 at least and LIFE is 99 at most, so the 100th HOP is always the last.
    private static final int MOST_HOPS = 100;
    private static final int SIXTY_FOURTHS = 64;
    private static final int MOST_GUESS = 63936;
    // A GUESS is MENDED behind TIME's growth, so at 1 at the earliest: 0 is free to mean never.
    private static final int NEVER = 0;
    private static final int NO_PAIR = -1;
    private static final int FAR = 1000000;
    private static final int HURT_OF_NO_WAY = 100;
    private static final int FAULTLESS = -1;
    private static final int FAULT_BASE = -10;

    private final Text text;
    private final Reader reader;
    private final Rules rules;
    private final Known known;
    private final Post post;
    private final Past past;
    private final Images images;
    private final Trail trail;
    private final LeastWays ways;
    private final Sights sights;

    public AskedRoutes() {
        text = new Text();
        reader = new Reader(text);
        rules = new Rules();
        known = new Known();
        post = new Post(rules, known);
        past = new Past();
        images = new Images();
        trail = new Trail(post);
        ways = new LeastWays();
        sights = new Sights();
    }

    // ---- what is told

    public int type(int letter) {
        if (letter < 0 || letter > 255) {
            return BAD;
        }
        return text.append(letter) ? text.size : FULL;
    }

    public int clear() {
        int had = text.size;
        text.size = 0;
        return had;
    }

    public int net() {
        int fault = reader.readText();
        if (fault != FAULTLESS) {
            return FAULT_BASE - fault;
        }
        rules.copyFrom(reader.rules);
        known.restart(reader.links);
        past.size = 0;
        images.drop();
        sights.size = 0;
        text.size = 0;
        return reader.items;
    }

    public int link(int l, int what) {
        int pair = known.links.pairOf(l);
        if (pair == NO_PAIR) {
            return BAD;
        }
        switch (what) {
            case 0:
                return pair / MOST_NODES;
            case 1:
                return pair % MOST_NODES;
            case 2:
                return known.links.delays[pair];
            default:
                return BAD;
        }
    }

    // ---- what is done

    public int sends(int from, int goal) {
        if (!areUnlike(from, goal)) {
            return BAD;
        }
        past.push(known);
        return post.deliver(from, goal);
    }

    public int rounds(int n) {
        if (n < 1 || n > MOST_ROUNDS) {
            return BAD;
        }
        past.push(known);
        int through = 0;
        for (int i = 0; i < n; i++) {
            through += post.deliverRound();
        }
        return through;
    }

    public int cuts(int l) {
        int pair = known.links.pairOf(l);
        if (pair == NO_PAIR) {
            return BAD;
        }
        past.push(known);
        known.takeAway(pair / MOST_NODES, pair % MOST_NODES);
        return known.links.total;
    }

    public int lays(int u, int v, int delay) {
        if (!areUnlike(u, v) || !isDelay(delay)) {
            return BAD;
        }
        if (known.links.delayOf(u, v) > 0) {
            return STATE;
        }
        if (known.links.total >= MOST_LINKS) {
            return FULL;
        }
        past.push(known);
        known.links.put(u, v, delay);
        return known.links.total;
    }

    public int changes(int l, int delay) {
        int pair = known.links.pairOf(l);
        if (pair == NO_PAIR || !isDelay(delay)) {
            return BAD;
        }
        int was = known.links.delays[pair];
        if (was == delay) {
            return STATE;
        }
        past.push(known);
        known.links.put(pair / MOST_NODES, pair % MOST_NODES, delay);
        return was;
    }

    public int undo() {
        return past.pop(known) ? past.size : STATE;
    }

    // ---- guesses

    public int guess(int u, int d, int v) {
        int refused = refusalOfGuess(u, d, v);
        return refused == 0 ? post.guessBy(u, d, v) : refused;
    }

    public int mended(int u, int d, int v) {
        int refused = refusalOfGuess(u, d, v);
        if (refused != 0) {
            return refused;
        }
        int when = known.mendedAt[guessCell(u, d, v)];
        return when == NEVER ? NONE : when;
    }

    public int best(int u, int d) {
        return areUnlike(u, d) ? post.bestOf(u, d) : BAD;
    }

    public int node(int u, int what) {
        if (!isNode(u)) {
            return BAD;
        }
        switch (what) {
            case 0:
                return known.counts[u];
            case 1:
                return known.explored[u];
            case 2:
                return known.links.neighboursOf(u);
            default:
                return BAD;
        }
    }

    public int used(int l) {
        int pair = known.links.pairOf(l);
        return pair == NO_PAIR ? BAD : known.hopsBy[pair];
    }

    // ---- ways

    public int way(int k) {
        if (k < -1) {
            return BAD;
        }
        // With no LETTER, -1 HOPS would be told: NONE comes first.
        if (k >= known.waySize || known.waySize == 0) {
            return NONE;
        }
        return k == -1 ? known.waySize - 1 : known.wayNodes[k];
    }

    public int path(int u, int d, int k) {
        if (!areUnlike(u, d) || k < -1) {
            return BAD;
        }
        trail.follow(u, d);
        if (k == -1) {
            return trail.size;
        }
        return k < trail.size ? trail.nodes[k] : NONE;
    }

    public int astray(int d) {
        if (!isNode(d)) {
            return BAD;
        }
        int lost = 0;
        for (int u = 0; u < rules.nodes; u++) {
            if (u != d && !trail.follow(u, d)) {
                lost++;
            }
        }
        return lost;
    }

    public int least(int u, int d) {
        if (!isNode(u) || !isNode(d)) {
            return BAD;
        }
        ways.measure(known.links, rules.nodes, NO_PAIR);
        return ways.between(u, d);
    }

    public int right() {
        ways.measure(known.links, rules.nodes, NO_PAIR);
        int sum = 0;
        for (int u = 0; u < rules.nodes; u++) {
            for (int d = 0; d < rules.nodes; d++) {
                if (u != d && trail.follow(u, d) && trail.delays == ways.between(u, d)) {
                    sum++;
                }
            }
        }
        return sum;
    }

    public int hurt(int l) {
        int pair = known.links.pairOf(l);
        return pair == NO_PAIR ? BAD : hurtWithout(pair);
    }

    public int worst() {
        int found = NONE;
        int most = 0;
        for (int l = 0; l < known.links.total; l++) {
            int sum = hurtWithout(known.links.pairOf(l));
            if (found == NONE || sum > most) {
                found = l;
                most = sum;
            }
        }
        return found;
    }

    // ---- which link

    public int sees(int u, int d, int w) {
        if (!areUnlike(u, d) || w < 0 || w > 99) {
            return BAD;
        }
        return sights.append(u, d, w) ? sights.size : FULL;
    }

    public int forget() {
        int had = sights.size;
        sights.size = 0;
        return had;
    }

    public int unseen() {
        int bits = 0;
        for (int l = 0; l < known.links.total; l++) {
            ways.measure(known.links, rules.nodes, known.links.pairOf(l));
            if (sights.agree(ways)) {
                bits |= 1 << l;
            }
        }
        return bits;
    }

    // ---- images

    public int keep(int image) {
        if (!isImage(image)) {
            return BAD;
        }
        images.rows[image].copyFrom(known);
        images.kept[image] = true;
        return known.links.total;
    }

    public int back(int image) {
        if (!isImage(image)) {
            return BAD;
        }
        if (!images.kept[image]) {
            return STATE;
        }
        known.copyFrom(images.rows[image]);
        past.size = 0;
        return known.links.total;
    }

    public int count(int what) {
        switch (what) {
            case 0:
                return rules.nodes;
            case 1:
                return known.links.total;
            case 2:
                return rules.every;
            case 3:
                return rules.halves;
            case 4:
                return rules.age;
            case 5:
                return rules.life;
            case 6:
                return rules.first;
            case 7:
                return known.time;
            case 8:
                return sights.size;
            case 9:
                return text.size;
            case 10:
                return past.size;
            default:
                return BAD;
        }
    }

    // ---- what the calls share

    private boolean isNode(int u) {
        return u >= 0 && u < rules.nodes;
    }

    private boolean areUnlike(int u, int v) {
        return isNode(u) && isNode(v) && u != v;
    }

    private static boolean isDelay(int delay) {
        return delay >= 1 && delay <= MOST_DELAY;
    }

    private static boolean isImage(int image) {
        return image >= 0 && image < IMAGES;
    }

    /** BAD or STATE as guess() and mended() refuse; 0: they don't. */
    private int refusalOfGuess(int u, int d, int v) {
        if (!areUnlike(u, d) || !isNode(v)) {
            return BAD;
        }
        return known.links.delayOf(u, v) > 0 ? 0 : STATE;
    }

    private int hurtWithout(int pair) {
        ways.measure(known.links, rules.nodes, pair);
        return ways.sumOfAll();
    }

    private static int pairCell(int u, int v) {
        return u * MOST_NODES + v;
    }

    private static int guessCell(int u, int d, int v) {
        return (u * MOST_NODES + d) * MOST_NODES + v;
    }

    /** THE TEXT. */
    private static final class Text {
        final int[] letters = new int[MOST_LETTERS];
        int size;

        boolean append(int letter) {
            if (size >= MOST_LETTERS) {
                return false;
            }
            letters[size] = letter;
            size++;
            return true;
        }
    }

    /** What only a text can tell: how many NODES, EVERY, HALVES, AGE, LIFE, FIRST. */
    private static final class Rules {
        int nodes;
        int every;
        int halves;
        int age;
        int life;
        int first;

        Rules() {
            restart();
        }

        void restart() {
            nodes = 2;
            every = 0;
            halves = 0;
            age = 99;
            life = 60;
            first = 0;
        }

        void copyFrom(Rules other) {
            nodes = other.nodes;
            every = other.every;
            halves = other.halves;
            age = other.age;
            life = other.life;
            first = other.first;
        }
    }

    /** The LINKS; a pair's cell has the same DELAY in both orders, 0 where there is no LINK. */
    private static final class Links {
        final int[] delays = new int[PAIRS];
        int total;

        void restart() {
            Arrays.fill(delays, 0);
            total = 0;
        }

        void copyFrom(Links other) {
            System.arraycopy(other.delays, 0, delays, 0, PAIRS);
            total = other.total;
        }

        int delayOf(int u, int v) {
            return delays[pairCell(u, v)];
        }

        void put(int u, int v, int delay) {
            if (delayOf(u, v) == 0) {
                total++;
            }
            delays[pairCell(u, v)] = delay;
            delays[pairCell(v, u)] = delay;
        }

        void takeAway(int u, int v) {
            if (delayOf(u, v) > 0) {
                total--;
            }
            delays[pairCell(u, v)] = 0;
            delays[pairCell(v, u)] = 0;
        }

        /** The cell of a LINK by its number, lower NODE ahead; NO_PAIR: there is none. */
        int pairOf(int l) {
            if (l < 0 || l >= total) {
                return NO_PAIR;
            }
            int ahead = 0;
            for (int u = 0; u < MOST_NODES; u++) {
                for (int v = u + 1; v < MOST_NODES; v++) {
                    if (delayOf(u, v) > 0) {
                        if (ahead == l) {
                            return pairCell(u, v);
                        }
                        ahead++;
                    }
                }
            }
            return NO_PAIR;
        }

        int neighboursOf(int u) {
            int sum = 0;
            for (int v = 0; v < MOST_NODES; v++) {
                if (delayOf(u, v) > 0) {
                    sum++;
                }
            }
            return sum;
        }
    }

    /** All that part 2 of the terms changes: what is UNDONE, and what an IMAGE keeps. */
    private static final class Known {
        final Links links = new Links();
        final int[] hopsBy = new int[PAIRS];
        final int[] guesses = new int[GUESSES];
        final int[] mendedAt = new int[GUESSES];
        final int[] counts = new int[MOST_NODES];
        final int[] explored = new int[MOST_NODES];
        final int[] wayNodes = new int[MOST_HOPS + 1];
        int waySize;
        int time;

        void restart(Links told) {
            links.copyFrom(told);
            Arrays.fill(hopsBy, 0);
            Arrays.fill(mendedAt, NEVER);
            Arrays.fill(counts, 0);
            Arrays.fill(explored, 0);
            waySize = 0;
            time = 0;
        }

        void copyFrom(Known other) {
            links.copyFrom(other.links);
            System.arraycopy(other.hopsBy, 0, hopsBy, 0, PAIRS);
            System.arraycopy(other.guesses, 0, guesses, 0, GUESSES);
            System.arraycopy(other.mendedAt, 0, mendedAt, 0, GUESSES);
            System.arraycopy(other.counts, 0, counts, 0, MOST_NODES);
            System.arraycopy(other.explored, 0, explored, 0, MOST_NODES);
            System.arraycopy(other.wayNodes, 0, wayNodes, 0, other.waySize);
            waySize = other.waySize;
            time = other.time;
        }

        /** Forgets all by the LINK now, so that one LAID there later starts anew. */
        void takeAway(int u, int v) {
            links.takeAway(u, v);
            hopsBy[pairCell(u, v)] = 0;
            for (int d = 0; d < MOST_NODES; d++) {
                mendedAt[guessCell(u, d, v)] = NEVER;
                mendedAt[guessCell(v, d, u)] = NEVER;
            }
        }

        void addToWay(int u) {
            if (waySize <= MOST_HOPS) {
                wayNodes[waySize] = u;
                waySize++;
            }
        }

        void countHop(int u, int v) {
            hopsBy[pairCell(Math.min(u, v), Math.max(u, v))]++;
            addToWay(v);
        }
    }

    /** Sends LETTERS and knows the GUESSES by which they go. */
    private static final class Post {
        final Rules rules;
        final Known known;

        Post(Rules rules, Known known) {
            this.rules = rules;
            this.known = known;
        }

        int guessBy(int u, int d, int v) {
            return guessAt(guessCell(u, d, v));
        }

        int guessAt(int cell) {
            int when = known.mendedAt[cell];
            if (when == NEVER || known.time - when > rules.age) {
                return SIXTY_FOURTHS * rules.first;
            }
            return known.guesses[cell];
        }

        int bestOf(int u, int d) {
            int row = pairCell(u, 0);
            int cells = guessCell(u, d, 0);
            int found = NONE;
            int lowest = 0;
            for (int v = 0; v < rules.nodes; v++) {
                if (known.links.delays[row + v] > 0) {
                    int one = guessAt(cells + v);
                    if (found == NONE || one < lowest) {
                        found = v;
                        lowest = one;
                    }
                }
            }
            return found;
        }

        /** The NEIGHBOUR by which the GUESS was MENDED longest ago: NEVER is below all TIMES. */
        int stalestOf(int u, int d) {
            int row = pairCell(u, 0);
            int cells = guessCell(u, d, 0);
            int found = NONE;
            int earliest = 0;
            for (int v = 0; v < rules.nodes; v++) {
                if (known.links.delays[row + v] > 0) {
                    int when = known.mendedAt[cells + v];
                    if (found == NONE || when < earliest) {
                        found = v;
                        earliest = when;
                    }
                }
            }
            return found;
        }

        /** Where a LETTER goes from u; NONE: it can't. */
        int chooseHop(int u, int goal) {
            if (known.links.neighboursOf(u) == 0) {
                return NONE;
            }
            known.counts[u]++;
            if (rules.every > 0 && known.counts[u] % rules.every == 0) {
                known.explored[u]++;
                return stalestOf(u, goal);
            }
            return bestOf(u, goal);
        }

        int toldBy(int v, int goal) {
            if (v == goal) {
                return 0;
            }
            int by = bestOf(v, goal);
            return by == NONE ? 0 : guessBy(v, goal, by);
        }

        void mend(int u, int goal, int v) {
            int told = SIXTY_FOURTHS * known.links.delayOf(u, v) + toldBy(v, goal);
            int cell = guessCell(u, goal, v);
            int old = guessAt(cell);
            // The shift takes the lower whole number below 0, too.
            known.guesses[cell] = Math.min(old + ((told - old) >> rules.halves), MOST_GUESS);
            known.mendedAt[cell] = known.time;
        }

        /** WORTH, if the LETTER is THROUGH; NONE: it is LOST. */
        int deliver(int from, int goal) {
            known.waySize = 0;
            known.addToWay(from);
            int here = from;
            int worth = 0;
            for (int hop = 0; hop < MOST_HOPS; hop++) {
                int to = chooseHop(here, goal);
                if (to == NONE) {
                    return NONE;
                }
                known.time++;
                worth += known.links.delayOf(here, to);
                mend(here, goal, to);
                known.countHop(here, to);
                if (to == goal) {
                    return worth;
                }
                if (worth > rules.life) {
                    return NONE;
                }
                here = to;
            }
            return NONE;
        }

        int deliverRound() {
            int through = 0;
            for (int from = 0; from < rules.nodes; from++) {
                for (int goal = 0; goal < rules.nodes; goal++) {
                    if (from != goal && deliver(from, goal) != NONE) {
                        through++;
                    }
                }
            }
            return through;
        }
    }

    /** What was ahead of the latest calls that can be UNDONE: a ring, the oldest overwritten first. */
    private static final class Past {
        final Known[] ring = new Known[MOST_UNDONE];
        int latest;
        int size;

        Past() {
            for (int i = 0; i < MOST_UNDONE; i++) {
                ring[i] = new Known();
            }
        }

        void push(Known known) {
            latest = latest + 1 < MOST_UNDONE ? latest + 1 : 0;
            ring[latest].copyFrom(known);
            if (size < MOST_UNDONE) {
                size++;
            }
        }

        boolean pop(Known known) {
            if (size == 0) {
                return false;
            }
            known.copyFrom(ring[latest]);
            latest = latest > 0 ? latest - 1 : MOST_UNDONE - 1;
            size--;
            return true;
        }
    }

    /** The IMAGES, and which of them were kept. */
    private static final class Images {
        final Known[] rows = new Known[IMAGES];
        final boolean[] kept = new boolean[IMAGES];

        Images() {
            for (int i = 0; i < IMAGES; i++) {
                rows[i] = new Known();
            }
        }

        void drop() {
            for (int i = 0; i < IMAGES; i++) {
                kept[i] = false;
            }
        }
    }

    /** The PATH that was followed last. */
    private static final class Trail {
        final Post post;
        final int[] nodes = new int[MOST_NODES];
        int size;
        int delays;

        Trail(Post post) {
            this.post = post;
        }

        /** Whether the PATH of u to d ends at d. */
        boolean follow(int u, int d) {
            delays = 0;
            int had = 0;
            int here = u;
            for (int i = 0; i < MOST_NODES; i++) {
                nodes[i] = here;
                size = i + 1;
                had |= 1 << here;
                if (here == d) {
                    return true;
                }
                int to = post.bestOf(here, d);
                if (to == NONE || (had & (1 << to)) != 0) {
                    return false;
                }
                delays += post.known.links.delayOf(here, to);
                here = to;
            }
            return false;
        }
    }

    /** LEAST of all pairs at once, as if one LINK were not there. */
    private static final class LeastWays {
        final int[] sums = new int[PAIRS];
        int nodes;

        void measure(Links links, int nodesNow, int without) {
            nodes = nodesNow;
            for (int u = 0; u < nodes; u++) {
                for (int v = 0; v < nodes; v++) {
                    sums[pairCell(u, v)] = stepFrom(links, u, v, without);
                }
            }
            for (int by = 0; by < nodes; by++) {
                for (int u = 0; u < nodes; u++) {
                    for (int v = 0; v < nodes; v++) {
                        int sum = sums[pairCell(u, by)] + sums[pairCell(by, v)];
                        sums[pairCell(u, v)] = Math.min(sums[pairCell(u, v)], sum);
                    }
                }
            }
        }

        int stepFrom(Links links, int u, int v, int without) {
            if (u == v) {
                return 0;
            }
            int delay = links.delayOf(u, v);
            if (delay == 0 || pairCell(Math.min(u, v), Math.max(u, v)) == without) {
                return FAR;
            }
            return delay;
        }

        int between(int u, int d) {
            int sum = sums[pairCell(u, d)];
            return sum >= FAR ? NONE : sum;
        }

        int sumOfAll() {
            int all = 0;
            for (int u = 0; u < nodes; u++) {
                for (int d = 0; d < nodes; d++) {
                    int one = between(u, d);
                    all += one == NONE ? HURT_OF_NO_WAY : one;
                }
            }
            return all;
        }
    }

    /** What was SEEN. */
    private static final class Sights {
        final int[] froms = new int[MOST_SEEN];
        final int[] goals = new int[MOST_SEEN];
        final int[] worths = new int[MOST_SEEN];
        int size;

        boolean append(int u, int d, int w) {
            if (size >= MOST_SEEN) {
                return false;
            }
            froms[size] = u;
            goals[size] = d;
            worths[size] = w;
            size++;
            return true;
        }

        boolean agree(LeastWays ways) {
            for (int i = 0; i < size; i++) {
                int sum = ways.between(froms[i], goals[i]);
                // No way is SEEN as 0; unlike NODES are never 0 apart.
                if ((sum == NONE ? 0 : sum) != worths[i]) {
                    return false;
                }
            }
            return true;
        }
    }

    /** Reads THE TEXT into rules and links of its own, so that a FAULT changes nothing outside. */
    private static final class Reader {
        // Kinds of TOKENS that are no single letter; those are their own kinds.
        static final int NUMBER = -1, OTHER = -2, END = -3;

        final Text text;
        final Rules rules = new Rules();
        final Links links = new Links();
        int items;
        int kind;
        int number;
        int place;
        int next;

        Reader(Text text) {
            this.text = text;
        }

        /** The FAULT, or FAULTLESS. */
        int readText() {
            rules.restart();
            links.restart();
            items = 0;
            next = 0;
            // An ITEM has a letter at least, so the END comes within these steps.
            for (int i = 0; i <= MOST_LETTERS; i++) {
                step();
                if (kind == END) {
                    return FAULTLESS;
                }
                if (!readItem() || !readEnd()) {
                    return place;
                }
                items++;
            }
            return place;
        }

        boolean readEnd() {
            step();
            return kind == ';';
        }

        /** An ITEM but for its end; if it is not one, place is where the FAULT is. */
        boolean readItem() {
            switch (kind) {
                case 'n':
                    return items == 0 && readNodes();
                case 'e':
                    return links.total < MOST_LINKS && readLink();
                case 'x':
                case 'h':
                case 'a':
                case 'l':
                case 'f':
                    return readRule(kind);
                default:
                    return false;
            }
        }

        boolean readNodes() {
            if (!readNumber(2, MOST_NODES)) {
                return false;
            }
            rules.nodes = number;
            return true;
        }

        boolean readLink() {
            if (!readNumber(0, rules.nodes - 1)) {
                return false;
            }
            int u = number;
            if (!readNumber(0, rules.nodes - 1)) {
                return false;
            }
            int v = number;
            if (v == u || links.delayOf(u, v) > 0 || !readNumber(1, MOST_DELAY)) {
                return false;
            }
            links.put(u, v, number);
            return true;
        }

        boolean readRule(int letter) {
            if (!readNumber(lowestOf(letter), highestOf(letter))) {
                return false;
            }
            if (letter == 'x') {
                rules.every = number;
            } else if (letter == 'h') {
                rules.halves = number;
            } else if (letter == 'a') {
                rules.age = number;
            } else if (letter == 'l') {
                rules.life = number;
            } else {
                rules.first = number;
            }
            return true;
        }

        static int lowestOf(int letter) {
            return letter == 'a' || letter == 'l' ? 1 : 0;
        }

        static int highestOf(int letter) {
            if (letter == 'x') {
                return 9;
            }
            return letter == 'h' ? 3 : 99;
        }

        boolean readNumber(int low, int high) {
            step();
            return kind == NUMBER && number >= low && number <= high;
        }

        /** To the next TOKEN: its kind, its place, and its number, if it is one. */
        void step() {
            while (next < text.size && text.letters[next] == ' ') {
                next++;
            }
            place = next;
            if (next >= text.size) {
                kind = END;
            } else if (isDigit(text.letters[next])) {
                stepOverNumber();
            } else {
                kind = text.letters[next];
                next++;
            }
        }

        void stepOverNumber() {
            number = 0;
            while (next < text.size && isDigit(text.letters[next])) {
                // 100 stands for all that is above 99, so that no digits overflow.
                number = Math.min(number * 10 + text.letters[next] - '0', 100);
                next++;
            }
            boolean zeroAhead = text.letters[place] == '0' && next > place + 1;
            kind = zeroAhead || number > 99 ? OTHER : NUMBER;
        }

        static boolean isDigit(int letter) {
            return letter >= '0' && letter <= '9';
        }
    }
}
