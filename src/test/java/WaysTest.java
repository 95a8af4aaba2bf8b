/** Promises 18 to 23: ways by best guesses, and in truth. */
public final class WaysTest {
    private static final Check check = new Check("WaysTest");

    public static void main(String[] args) {
        paths();
        pathIsBad();
        astrays();
        leasts();
        rights();
        hurts();
        worsts();
        sixNodes();
        check.end();
    }

    private static void path(AskedRoutes x, int u, int d, int... nodes) {
        String what = "path(" + u + ", " + d + ", ";
        check.due(what + "-1)", x.path(u, d, -1), nodes.length);
        for (int k = 0; k < nodes.length; k++) {
            check.due(what + k + ")", x.path(u, d, k), nodes[k]);
        }
        check.due(what + nodes.length + ")", x.path(u, d, nodes.length), Check.NONE);
    }

    private static void paths() {
        AskedRoutes x = check.told("n6;e0 1 1;e1 2 1;e2 3 1;e3 4 1;");
        path(x, 0, 1, 0, 1);
        path(x, 0, 4, 0, 1);
        path(x, 4, 0, 4, 3, 2, 1, 0);
        path(x, 2, 4, 2, 1, 0);
        path(x, 5, 0, 5);
        path(x, 0, 5, 0, 1);
        x.lays(4, 5, 1);
        path(x, 5, 0, 5, 4, 3, 2, 1, 0);
        check.due("path(5, 0, 6)", x.path(5, 0, 6), Check.NONE);
        check.due("path(5, 0, most)", x.path(5, 0, Integer.MAX_VALUE), Check.NONE);
    }

    private static void pathIsBad() {
        AskedRoutes x = check.told("n3;e0 1 1;");
        int[][] bad = {{0, 0, -1}, {0, 1, -2}, {3, 0, 0}, {0, 3, 0}, {-1, 0, 0}, {0, -1, 0}};
        for (int[] row : bad) {
            check.due("path of " + row[0] + row[1] + row[2], x.path(row[0], row[1], row[2]), Check.BAD);
        }
        for (int number : Check.BEYOND_ALL) {
            check.due("path(" + number + ", 0, 0)", x.path(number, 0, 0), Check.BAD);
            check.due("path(0, " + number + ", 0)", x.path(0, number, 0), Check.BAD);
            check.due("path(0, 1, " + number + ")", x.path(0, 1, number), number < 0 ? Check.BAD : Check.NONE);
        }
    }

    private static void astrays() {
        AskedRoutes x = check.told("n5;e0 1 1;e1 2 1;e2 3 1;");
        // Each sends to its lowest NEIGHBOUR at first.
        check.due("astray(0)", x.astray(0), 1);
        check.due("astray(1)", x.astray(1), 1);
        check.due("astray(3)", x.astray(3), 4);
        check.due("astray(4)", x.astray(4), 4);
        check.due("astray(5)", x.astray(5), Check.BAD);
        check.due("astray(-1)", x.astray(-1), Check.BAD);
        for (int number : Check.BEYOND_ALL) {
            check.due("astray(" + number + ")", x.astray(number), Check.BAD);
        }
        x = check.told("e0 1 1;");
        check.due("astray(0) of two", x.astray(0), 0);
        check.due("astray(1) of two", x.astray(1), 0);
        check.due("astray(0) without links", new AskedRoutes().astray(0), 1);
    }

    private static void leasts() {
        AskedRoutes x = check.told("n6;e0 1 9;e0 2 1;e2 3 2;e3 1 3;e4 5 9;");
        int[][] due = {
            {0, 6, 1, 3, -9, -9}, {6, 0, 5, 3, -9, -9}, {1, 5, 0, 2, -9, -9},
            {3, 3, 2, 0, -9, -9}, {-9, -9, -9, -9, 0, 9}, {-9, -9, -9, -9, 9, 0}};
        for (int u = 0; u < 6; u++) {
            for (int d = 0; d < 6; d++) {
                check.due("least(" + u + ", " + d + ")", x.least(u, d), due[u][d]);
            }
        }
        check.due("least(6, 6)", x.least(6, 6), Check.BAD);
        check.due("least(-1, -1)", x.least(-1, -1), Check.BAD);
        for (int number : Check.BEYOND_ALL) {
            check.due("least(" + number + ", 0)", x.least(number, 0), Check.BAD);
            check.due("least(0, " + number + ")", x.least(0, number), Check.BAD);
        }
        x = check.told("n6;e5 4 9;e4 3 9;e3 2 9;e2 1 9;e1 0 9;");
        check.due("least(0, 5), the longest", x.least(0, 5), 45);
        check.due("least(5, 0), the longest", x.least(5, 0), 45);
    }

    private static void rights() {
        check.due("right() without links", new AskedRoutes().right(), 0);
        check.due("right() of two", check.told("e0 1 9;").right(), 2);
        // 0-1-2: 0 to 2 goes round (1 sends back), so does 1 to 2.
        AskedRoutes x = check.told("n3;e0 1 1;e1 2 1;");
        check.due("right() of three", x.right(), 4);
        x.sends(0, 2);
        check.due("right() of three, learnt", x.right(), 6);
        // Both ways of 0 to 3 are as long: either is right.
        x = check.told("n4;e0 1 2;e0 2 1;e1 3 1;e2 3 2;");
        x.rounds(4);
        check.due("least(0, 3)", x.least(0, 3), 3);
        check.due("right() of even ways", x.right(), 12);
        // 2 to 1 ends there by 0 with 10, but LEAST is 9; 0 to 2 and 1 to 2 go round; the others are right.
        x = check.told("n3;e0 1 9;e0 2 1;e1 2 9;");
        path(x, 2, 1, 2, 0, 1);
        path(x, 0, 2, 0, 1);
        check.due("right() of long ways", x.right(), 3);
    }

    private static void hurts() {
        AskedRoutes x = check.told("n4;e0 1 1;e1 2 2;e0 2 9;e2 3 4;");
        // Without 0-1: 01 11, 02 9, 03 13, 12 2, 13 6, 23 4.
        check.due("hurt(0)", x.hurt(0), 2 * (11 + 9 + 13 + 2 + 6 + 4));
        // Without 0-2: nothing is longer.
        check.due("hurt(1)", x.hurt(1), 2 * (1 + 3 + 7 + 2 + 6 + 4));
        // Without 1-2: 01 1, 02 9, 03 13, 12 10, 13 14, 23 4.
        check.due("hurt(2)", x.hurt(2), 2 * (1 + 9 + 13 + 10 + 14 + 4));
        // Without 2-3: 3 is alone.
        check.due("hurt(3)", x.hurt(3), 2 * (1 + 3 + 2 + 300));
        check.due("hurt(4)", x.hurt(4), Check.BAD);
        check.due("hurt(-1)", x.hurt(-1), Check.BAD);
        for (int number : Check.BEYOND_ALL) {
            check.due("hurt(" + number + ")", x.hurt(number), Check.BAD);
        }
        check.due("worst()", x.worst(), 3);
    }

    private static void worsts() {
        check.due("worst() without links", new AskedRoutes().worst(), Check.NONE);
        check.due("worst() of one", check.told("e0 1 1;").worst(), 0);
        AskedRoutes x = check.told("n4;e0 1 1;e1 2 1;e2 3 1;");
        check.due("worst(), the middle", x.worst(), 1);
        x = check.told("n4;e0 1 1;e2 3 1;");
        check.due("worst() of equals, the lowest", x.worst(), 0);
        check.due("its hurt", x.hurt(0), 2 * (5 * 100 + 1));
        check.due("the hurt of the other one", x.hurt(1), 2 * (5 * 100 + 1));
    }

    private static void sixNodes() {
        // A star: the middle is the highest, so that all send to it at once, and it sends to 0 alone.
        AskedRoutes x = check.told("n6;e5 0 1;e5 1 2;e5 2 3;e5 3 4;e5 4 5;");
        check.due("right() of a star", x.right(), 5 + 5);
        check.due("astray(0)", x.astray(0), 0);
        check.due("astray(4)", x.astray(4), 5);
        check.due("astray(5)", x.astray(5), 0);
        // All pairs: the middle's 15, and each two of the others: 4 times 15.
        check.due("hurt(4): 4 is alone", x.hurt(4), 2 * (5 * 100 + 10 + 3 * 10));
        check.due("hurt(0): 0 is alone", x.hurt(0), 2 * (5 * 100 + 14 + 3 * 14));
        check.due("worst()", x.worst(), 0);
        x.sees(0, 1, 0);
        check.due("unseen()", x.unseen(), 3);
        x.sees(0, 4, 6);
        check.due("unseen() of one", x.unseen(), 2);
    }
}
