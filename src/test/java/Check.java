/** Counts wrong answers; the tests of one file share one. */
final class Check {
    static final int BAD = -1, STATE = -2, FULL = -3, NONE = -9;
    static final int[] BEYOND_ALL = {Integer.MIN_VALUE, Integer.MIN_VALUE + 1, -1000, -10, -9, -3, -2, 256, 1 << 16, Integer.MAX_VALUE - 1, Integer.MAX_VALUE};

    private final String name;
    private int asked;
    private int wrong;

    Check(String name) {
        this.name = name;
    }

    void due(String what, long got, long want) {
        asked++;
        if (got != want) {
            wrong++;
            System.out.println(name + ": " + what + " answered " + got + ", due is " + want);
        }
    }

    void holds(String what, boolean so) {
        due(what, so ? 1 : 0, 1);
    }

    /** Types a text and reads it. */
    static int tell(AskedRoutes x, String text) {
        for (int i = 0; i < text.length(); i++) {
            x.type(text.charAt(i));
        }
        return x.net();
    }

    /** A new object that has read a text which must be faultless. */
    AskedRoutes told(String text) {
        AskedRoutes x = new AskedRoutes();
        holds("net() of '" + text + "' is faultless", tell(x, text) >= 0);
        return x;
    }

    /** All that can be asked without changing anything: two objects of the same state have the same. */
    static String allOf(AskedRoutes x) {
        StringBuilder all = new StringBuilder();
        for (int what = 0; what <= 10; what++) {
            all.append(x.count(what)).append(what == 10 ? '\n' : ' ');
        }
        int nodes = x.count(0);
        for (int l = 0; l < x.count(1); l++) {
            all.append("l ").append(x.link(l, 0)).append(x.link(l, 1)).append(x.link(l, 2));
            all.append(' ').append(x.used(l)).append(' ').append(x.hurt(l)).append('\n');
        }
        for (int u = 0; u < nodes; u++) {
            all.append("n ").append(x.node(u, 0)).append(' ').append(x.node(u, 1)).append(' ').append(x.node(u, 2)).append('\n');
            for (int d = 0; d < nodes; d++) {
                all.append(x.best(u, d)).append(' ').append(x.least(u, d)).append(' ').append(x.path(u, d, -1));
                for (int v = 0; v < nodes; v++) {
                    all.append(' ').append(x.guess(u, d, v)).append(' ').append(x.mended(u, d, v));
                }
                all.append('\n');
            }
        }
        for (int k = -1; k <= 101; k++) {
            all.append(x.way(k)).append(' ');
        }
        return all.append(x.right()).append(' ').append(x.worst()).append(' ').append(x.unseen()).toString();
    }

    void end() {
        System.out.println(name + ": " + asked + " asked, " + wrong + " wrong");
        if (wrong != 0) {
            System.exit(1);
        }
    }
}
