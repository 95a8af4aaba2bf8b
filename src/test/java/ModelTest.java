import java.util.Random;

/** All promises: random runs of 512 calls, each answer as the Model has it, with wrong and far numbers among them. */
public final class ModelTest {
    private static final int RUNS = 1500;
    private static final Check check = new Check("ModelTest");

    private final Random random;
    private final AskedRoutes x = new AskedRoutes();
    private final Model model = new Model();
    private final int run;
    private final boolean wild;
    private int calls;

    private ModelTest(int run) {
        this.run = run;
        random = new Random(run);
        wild = run % 3 == 0;
    }

    public static void main(String[] args) {
        for (int run = 0; run < RUNS; run++) {
            new ModelTest(run).play();
        }
        check.end();
    }

    private void play() {
        tell(goodText());
        while (calls < Script.MOST_CALLS) {
            int dice = random.nextInt(100);
            if (dice == 0) {
                tell(goodText());
            } else if (dice == 1) {
                tell(spoilt(goodText()));
                same("clear()", x.clear(), model.clear());
            } else if (dice < 40) {
                act();
            } else {
                ask();
            }
        }
    }

    private void same(String call, int got, int want) {
        calls++;
        if (calls <= Script.MOST_CALLS) {
            check.due("run " + run + ", call " + calls + ", " + call, got, want);
        }
    }

    private void tell(String text) {
        for (int i = 0; i < text.length(); i++) {
            int letter = text.charAt(i);
            same("type(" + letter + ")", x.type(letter), model.type(letter));
        }
        same("net() of '" + text + "'", x.net(), model.net());
    }

    private String goodText() {
        StringBuilder text = new StringBuilder();
        int nodes = 2 + random.nextInt(5);
        text.append(blank()).append("n").append(blank()).append(nodes).append(blank()).append(";");
        boolean[] had = new boolean[36];
        int links = random.nextInt(11);
        for (int i = 0; i < links; i++) {
            int u = random.nextInt(nodes);
            int v = random.nextInt(nodes);
            if (u != v && !had[6 * u + v]) {
                had[6 * u + v] = true;
                had[6 * v + u] = true;
                text.append("e").append(blank()).append(u).append(" ").append(v).append(" ").append(1 + random.nextInt(9)).append(blank()).append(";");
            }
        }
        String[] rules = {"x" + random.nextInt(5), "h" + random.nextInt(4), "a" + (1 + random.nextInt(random.nextBoolean() ? 9 : 99)),
            "l" + (1 + random.nextInt(99)), "f" + random.nextInt(random.nextBoolean() ? 5 : 100)};
        for (String rule : rules) {
            if (random.nextInt(3) > 0) {
                text.append(rule).append(";");
            }
        }
        return text.length() > 120 ? text.substring(0, 120) : text.toString();
    }

    private String blank() {
        return random.nextInt(12) == 0 ? " " : "";
    }

    private String spoilt(String text) {
        StringBuilder spoilt = new StringBuilder(text);
        String letters = "nexhalf;0123456789 \t%Z" + (char) 0 + (char) 255;
        for (int i = 0; i <= random.nextInt(2); i++) {
            int at = random.nextInt(spoilt.length());
            char letter = letters.charAt(random.nextInt(letters.length()));
            switch (random.nextInt(4)) {
                case 0:
                    spoilt.setCharAt(at, letter);
                    break;
                case 1:
                    spoilt.insert(at, letter);
                    break;
                case 2:
                    spoilt.setLength(Math.max(1, at));
                    break;
                default:
                    spoilt.insert(0, goodText());
                    spoilt.setLength(Math.min(spoilt.length(), 125));
            }
        }
        return spoilt.toString();
    }

    /** A number below so many, mostly; sometimes one just beyond, or far beyond. */
    private int below(int most) {
        if (wild && random.nextInt(8) == 0) {
            return random.nextInt(3) == 0 ? random.nextInt() : Check.BEYOND_ALL[random.nextInt(Check.BEYOND_ALL.length)];
        }
        return random.nextInt(25) == 0 ? random.nextInt(most + 4) - 2 : random.nextInt(Math.max(1, most));
    }

    private int aNode() {
        return below(model.count(0));
    }

    private int aLink() {
        return below(model.count(1));
    }

    private void act() {
        int a = aNode();
        int b = aNode();
        int l = aLink();
        int n = 1 + below(9);
        switch (random.nextInt(14)) {
            case 0:
            case 1:
            case 2:
            case 3:
                same("sends(" + a + ", " + b + ")", x.sends(a, b), model.sends(a, b));
                break;
            case 4:
                n = random.nextInt(4) == 0 ? n : 1;
                same("rounds(" + n + ")", x.rounds(n), model.rounds(n));
                break;
            case 5:
                same("cuts(" + l + ")", x.cuts(l), model.cuts(l));
                break;
            case 6:
            case 7:
                same("lays(" + a + ", " + b + ", " + n + ")", x.lays(a, b, n), model.lays(a, b, n));
                break;
            case 8:
                same("changes(" + l + ", " + n + ")", x.changes(l, n), model.changes(l, n));
                break;
            case 9:
            case 10:
                same("undo()", x.undo(), model.undo());
                break;
            case 11:
                int image = below(2);
                same("keep(" + image + ")", x.keep(image), model.keep(image));
                break;
            case 12:
                int old = below(2);
                same("back(" + old + ")", x.back(old), model.back(old));
                break;
            default:
                see();
        }
    }

    private void see() {
        int u = aNode();
        int d = aNode();
        int w = below(20);
        if (random.nextInt(5) == 0) {
            same("forget()", x.forget(), model.forget());
        } else {
            int guessed = model.least(u, d);
            int seen = random.nextBoolean() && guessed >= 0 ? guessed : w;
            same("sees(" + u + ", " + d + ", " + seen + ")", x.sees(u, d, seen), model.sees(u, d, seen));
        }
        same("unseen()", x.unseen(), model.unseen());
    }

    private void ask() {
        int u = aNode();
        int d = aNode();
        int v = aNode();
        int l = aLink();
        int k = below(7) - 1;
        int what = below(3);
        switch (random.nextInt(16)) {
            case 0:
                same("link(" + l + ", " + what + ")", x.link(l, what), model.link(l, what));
                break;
            case 1:
            case 2:
                same("guess(" + u + ", " + d + ", " + v + ")", x.guess(u, d, v), model.guess(u, d, v));
                break;
            case 3:
            case 4:
                same("mended(" + u + ", " + d + ", " + v + ")", x.mended(u, d, v), model.mended(u, d, v));
                break;
            case 5:
                same("best(" + u + ", " + d + ")", x.best(u, d), model.best(u, d));
                break;
            case 6:
                same("node(" + u + ", " + what + ")", x.node(u, what), model.node(u, what));
                break;
            case 7:
                same("used(" + l + ")", x.used(l), model.used(l));
                break;
            case 8:
                int far = random.nextBoolean() ? k : below(101);
                same("way(" + far + ")", x.way(far), model.way(far));
                break;
            case 9:
                same("path(" + u + ", " + d + ", " + k + ")", x.path(u, d, k), model.path(u, d, k));
                break;
            case 10:
                same("astray(" + d + ")", x.astray(d), model.astray(d));
                break;
            case 11:
                same("least(" + u + ", " + d + ")", x.least(u, d), model.least(u, d));
                break;
            case 12:
                same("right()", x.right(), model.right());
                break;
            case 13:
                same("hurt(" + l + ")", x.hurt(l), model.hurt(l));
                break;
            case 14:
                same("worst()", x.worst(), model.worst());
                break;
            default:
                int which = below(11);
                same("count(" + which + ")", x.count(which), model.count(which));
        }
    }
}
