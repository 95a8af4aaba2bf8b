/** Promises 1 to 5 and 29: what is told. */
public final class ToldTest {
    private static final Check check = new Check("ToldTest");
    private static final String TEN = "n6;e0 1 1;e0 2 1;e0 3 1;e0 4 1;e0 5 1;e1 2 1;e1 3 1;e1 4 1;e1 5 1;e2 3 1;";

    public static void main(String[] args) {
        newObject();
        types();
        clears();
        goodTexts();
        faults();
        wholeTexts();
        lettersOfBefore();
        linksAreNumbered();
        linkIsBad();
        counts();
        check.end();
    }

    private static void newObject() {
        AskedRoutes x = new AskedRoutes();
        int[] atFirst = {2, 0, 0, 0, 99, 60, 0, 0, 0, 0, 0};
        for (int what = 0; what < atFirst.length; what++) {
            check.due("new: count(" + what + ")", x.count(what), atFirst[what]);
        }
        check.due("new: best(0, 1)", x.best(0, 1), Check.NONE);
        check.due("new: way(-1)", x.way(-1), Check.NONE);
        check.due("new: way(0)", x.way(0), Check.NONE);
        check.due("new: link(0, 0)", x.link(0, 0), Check.BAD);
        check.due("new: undo()", x.undo(), Check.STATE);
        check.due("new: back(0)", x.back(0), Check.STATE);
        check.due("new: worst()", x.worst(), Check.NONE);
        check.due("new: unseen()", x.unseen(), 0);
        check.due("new: node(1, 0)", x.node(1, 0), 0);
        check.due("new: node(2, 0)", x.node(2, 0), Check.BAD);
    }

    private static void types() {
        AskedRoutes x = new AskedRoutes();
        for (int letter : new int[] {-1, 256, Integer.MIN_VALUE, Integer.MAX_VALUE}) {
            check.due("type(" + letter + ")", x.type(letter), Check.BAD);
        }
        check.due("type(0)", x.type(0), 1);
        check.due("type(255)", x.type(255), 2);
        for (int i = 3; i <= 120; i++) {
            check.due("type the " + i + "th", x.type(32), i);
        }
        check.due("type the 121st", x.type(32), Check.FULL);
        check.due("type the 121st, bad", x.type(256), Check.BAD);
        check.due("count(9)", x.count(9), 120);
    }

    private static void clears() {
        AskedRoutes x = new AskedRoutes();
        check.due("clear() of nothing", x.clear(), 0);
        x.type('n');
        x.type('9');
        check.due("clear()", x.clear(), 2);
        check.due("clear() again", x.clear(), 0);
        check.due("count(9)", x.count(9), 0);
        check.due("net() of the new text alone", Check.tell(x, "n3;"), 1);
        for (int i = 0; i < 120; i++) {
            x.type(' ');
        }
        check.due("clear() of all", x.clear(), 120);
        check.due("type() behind it", x.type(' '), 1);
    }

    private static void goodTexts() {
        String[] texts = {"", "   ", "n2;", "n6;", " n 3 ; e 2 0 9 ; ", "e0 1 1;", "e1 0 9;", "x0;x9;", "h0;h3;", "a1;a99;",
            "l1;l99;", "f0;f99;", "n6;x1;h1;a1;l1;f1;", TEN, "f10;e0 1 5;"};
        int[] items = {0, 0, 1, 1, 2, 1, 1, 2, 2, 2, 2, 2, 6, 11, 2};
        for (int i = 0; i < texts.length; i++) {
            AskedRoutes x = new AskedRoutes();
            check.due("net() of '" + texts[i] + "'", Check.tell(x, texts[i]), items[i]);
            check.due("letters behind '" + texts[i] + "'", x.count(9), 0);
        }
    }

    private static void faults() {
        fault(";", 0);
        fault("2;", 0);
        fault("N2;", 0);
        fault("n1;", 1);
        fault("n7;", 1);
        fault("n0;", 1);
        fault("n02;", 1);
        fault("n100;", 1);
        fault("n", 1);
        fault("n  ", 3);
        fault("n2", 2);
        fault("n2 ", 3);
        fault("nn", 1);
        fault("n;", 1);
        fault("n2e", 2);
        fault("n2 3;", 3);
        fault("n23;", 1);
        fault("x1;n2;", 3);
        fault("n2;n2;", 3);
        fault("e", 1);
        fault("e0", 2);
        fault("e2 0 1;", 1);
        fault("e0 2 1;", 3);
        fault("e0 0 1;", 3);
        fault("e0 1;", 4);
        fault("e0 11;", 3);
        fault("e01 1;", 1);
        fault("e0 1 0;", 5);
        fault("e0 1 10;", 5);
        fault("e0 1 1 1;", 7);
        fault("e0 1 1", 6);
        fault("e0 1 1;e0 1 1;", 10);
        fault("e0 1 1;e1 0 1;", 10);
        fault("n6;e5 6 1;", 6);
        fault("x10;", 1);
        fault("h4;", 1);
        fault("a0;", 1);
        fault("a100;", 1);
        fault("l0;", 1);
        fault("l100;", 1);
        fault("f100;", 1);
        fault("f00;", 1);
        fault("x-1;", 1);
        fault("x4294967296;", 1);
        fault("x12345678901234567890123456789;", 1);
        fault("x1;;", 3);
        fault("x1;%", 3);
        fault("x1 %;", 3);
        fault("x1;" + (char) 9, 3);
        fault("x1;" + (char) 0, 3);
        fault("x1;" + (char) 160, 3);
        fault("x" + (char) 178 + ";", 1);
        fault("x" + (char) 0 + ";", 1);
        fault("x1" + (char) 0, 2);
        fault("  x", 3);
        fault("y1;", 0);
        fault("a0;%", 1);
        fault("%a0;", 0);
        fault(TEN + "e2 4 1;", TEN.length());
        fault(TEN + " e9", TEN.length() + 1);
    }

    private static void fault(String text, int place) {
        check.due("net() of '" + text + "'", Check.tell(new AskedRoutes(), text), -10 - place);
    }

    /** Texts of 120 letters: nothing stands behind the last one. */
    private static void wholeTexts() {
        check.due("net() of 120 blanks", Check.tell(new AskedRoutes(), " ".repeat(120)), 0);
        check.due("net() of 120 digits", Check.tell(new AskedRoutes(), "1".repeat(120)), -10);
        check.due("net() of 40 items", Check.tell(new AskedRoutes(), "x1;".repeat(40)), 40);
        check.due("net() that ends at 120", Check.tell(new AskedRoutes(), "x1;".repeat(39) + " x1"), -130);
        check.due("net() that ends at 120 with blanks", Check.tell(new AskedRoutes(), "x1;".repeat(39) + "x  "), -130);
        check.due("net() with a fault at 119", Check.tell(new AskedRoutes(), "x1;".repeat(39) + "x1%"), -129);
    }

    /** What was cleared, or read, is no longer there. */
    private static void lettersOfBefore() {
        AskedRoutes x = new AskedRoutes();
        check.due("net() of a long text", Check.tell(x, "n3         ;"), 1);
        check.due("net() of 'n'", Check.tell(x, "n"), -11);
        x.clear();
        check.due("net() of digits", Check.tell(x, "x12222222222"), -11);
        x.clear();
        check.due("net() of 'x1'", Check.tell(x, "x1"), -12);
        check.due("type(;)", x.type(';'), 3);
        check.due("net()", x.net(), 1);
    }

    private static void linksAreNumbered() {
        AskedRoutes x = check.told("n5;e4 3 1;e2 0 2;e1 4 3;e1 0 4;e3 1 5;");
        int[][] rows = {{0, 1, 4}, {0, 2, 2}, {1, 3, 5}, {1, 4, 3}, {3, 4, 1}};
        for (int l = 0; l < rows.length; l++) {
            for (int what = 0; what < 3; what++) {
                check.due("link(" + l + ", " + what + ")", x.link(l, what), rows[l][what]);
            }
        }
    }

    private static void linkIsBad() {
        AskedRoutes x = check.told("e0 1 1;");
        check.due("link(1, 0)", x.link(1, 0), Check.BAD);
        check.due("link(-1, 0)", x.link(-1, 0), Check.BAD);
        check.due("link(0, 3)", x.link(0, 3), Check.BAD);
        check.due("link(0, -1)", x.link(0, -1), Check.BAD);
        for (int number : Check.BEYOND_ALL) {
            check.due("link(" + number + ", 0)", x.link(number, 0), Check.BAD);
            check.due("link(0, " + number + ")", x.link(0, number), Check.BAD);
        }
    }

    private static void counts() {
        AskedRoutes x = check.told("n3;e0 1 2;x1;x4;h2;a50;l70;f8;f9;");
        x.sends(0, 1);
        x.changes(0, 3);
        x.sees(0, 1, 1);
        x.type(' ');
        int[] due = {3, 1, 4, 2, 50, 70, 9, 1, 1, 1, 2};
        for (int what = 0; what < due.length; what++) {
            check.due("count(" + what + ")", x.count(what), due[what]);
        }
        check.due("count(-1)", x.count(-1), Check.BAD);
        check.due("count(11)", x.count(11), Check.BAD);
        for (int what : Check.BEYOND_ALL) {
            check.due("count(" + what + ")", x.count(what), Check.BAD);
        }
    }
}
