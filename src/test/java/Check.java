/** Counts wrong answers; the tests of one file share one. */
final class Check {
    static final int BAD = -1, STATE = -2, FULL = -3, NONE = -9;
    static final int[] BEYOND_ALL = {Integer.MIN_VALUE, Integer.MIN_VALUE + 1, -1000, -10, -9, -3, -2, 256, 1 << 16, Integer.MAX_VALUE - 1, Integer.MAX_VALUE};

    private final String name;
    private int asked;
    private int wrong;

    Check(String name) {
        this.name = name;
    }

    void due(String what, long got, long want) {
        asked++;
        if (got != want) {
            wrong++;
            System.out.println(name + ": " + what + " answered " + got + ", due is " + want);
        }
    }

    void holds(String what, boolean so) {
        due(what, so ? 1 : 0, 1);
    }

    /** Types a text and reads it. */
    static int tell(AskedRoutes x, String text) {
        for (int i = 0; i < text.length(); i++) {
            x.type(text.charAt(i));
        }
        return x.net();
    }

    /** A new object that has read a text which must be faultless. */
    AskedRoutes told(String text) {
        AskedRoutes x = new AskedRoutes();
        holds("net() of '" + text + "' is faultless", tell(x, text) >= 0);
        return x;
    }

    void end() {
        System.out.println(name + ": " + asked + " asked, " + wrong + " wrong");
        if (wrong != 0) {
            System.exit(1);
        }
    }
}
