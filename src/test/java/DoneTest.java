/** Promises 6 to 11 and 17: what is done, and the WAY of the latest LETTER. */
public final class DoneTest {
    private static final Check check = new Check("DoneTest");

    public static void main(String[] args) {
        sendsThrough();
        sendsLost();
        sendsIsBad();
        lifeIsLookedAtLast();
        longestLetter();
        explores();
        exploresByOldGuesses();
        roundsGoInOrder();
        roundsIsBad();
        cuts();
        lays();
        laysIsRefused();
        changes();
        undoKnowsEight();
        undoOfEach();
        refusedCallsAreNotUndone();
        ways();
        check.end();
    }

    private static void way(AskedRoutes x, String what, int... nodes) {
        check.due(what + ": way(-1)", x.way(-1), nodes.length - 1);
        for (int k = 0; k < nodes.length; k++) {
            check.due(what + ": way(" + k + ")", x.way(k), nodes[k]);
        }
        check.due(what + ": way(" + nodes.length + ")", x.way(nodes.length), Check.NONE);
    }

    private static void sendsThrough() {
        AskedRoutes x = check.told("n3;e0 1 2;e1 2 3;");
        // All GUESSES are 0 at first: 1 sends back to 0, as 0 is the lowest, and then 1's GUESS by 2 is the least.
        check.due("sends(0, 2)", x.sends(0, 2), 2 + 2 + 2 + 3);
        way(x, "back and forth", 0, 1, 0, 1, 2);
        check.due("TIME", x.count(7), 4);
        // HOP 1: 0 by 1 is 128 and 0; HOP 2: 1 by 0 is 128 and 128; HOP 3: 0 by 1 is 128 and 0 again; HOP 4: 1 by 2 is 192.
        check.due("guess(0, 2, 1)", x.guess(0, 2, 1), 128);
        check.due("guess(1, 2, 0)", x.guess(1, 2, 0), 256);
        check.due("guess(1, 2, 2)", x.guess(1, 2, 2), 192);
        check.due("sends(0, 2) again", x.sends(0, 2), 5);
        check.due("guess(0, 2, 1) now", x.guess(0, 2, 1), 128 + 192);
        check.due("another goal is not mended", x.mended(0, 1, 1), Check.NONE);
    }

    private static void sendsLost() {
        AskedRoutes x = check.told("n3;e0 1 1;l3;");
        check.due("sends(2, 0)", x.sends(2, 0), Check.NONE);
        way(x, "no neighbour", 2);
        check.due("COUNT there", x.node(2, 0), 0);
        check.due("TIME", x.count(7), 0);
        check.due("it can be undone", x.count(10), 1);
        check.due("sends(0, 2)", x.sends(0, 2), Check.NONE);
        way(x, "worth 4", 0, 1, 0, 1, 0);
        check.due("TIME of 4 hops", x.count(7), 4);
    }

    private static void sendsIsBad() {
        AskedRoutes x = check.told("n3;e0 1 1;");
        check.due("sends(0, 0)", x.sends(0, 0), Check.BAD);
        check.due("sends(0, 3)", x.sends(0, 3), Check.BAD);
        check.due("sends(3, 0)", x.sends(3, 0), Check.BAD);
        check.due("sends(-1, 0)", x.sends(-1, 0), Check.BAD);
        check.due("sends(0, -1)", x.sends(0, -1), Check.BAD);
        for (int number : Check.BEYOND_ALL) {
            check.due("sends(" + number + ", 0)", x.sends(number, 0), Check.BAD);
            check.due("sends(0, " + number + ")", x.sends(0, number), Check.BAD);
        }
        check.due("nothing to undo", x.count(10), 0);
        check.due("no way", x.way(-1), Check.NONE);
    }

    private static void lifeIsLookedAtLast() {
        AskedRoutes x = check.told("n3;e0 1 3;e1 2 9;e0 2 9;l3;");
        // WORTH that is LIFE goes on; behind it, at the GOAL, it may be above.
        check.due("sends(0, 2)", x.sends(0, 2), Check.NONE);
        way(x, "lost", 0, 1, 0);
        check.due("0 by 1", x.guess(0, 2, 1), 192);
        check.due("1 by 0", x.guess(1, 2, 0), 192);
        check.due("sends(0, 2), through", x.sends(0, 2), 9);
        check.due("sends(1, 2), through", x.sends(1, 2), 9);
        x = check.told("n3;e0 1 3;e1 2 9;l2;");
        check.due("sends(0, 2), above LIFE at once", x.sends(0, 2), Check.NONE);
        way(x, "lost at once", 0, 1);
    }

    private static void longestLetter() {
        AskedRoutes x = check.told("n3;e0 1 1;l99;");
        check.due("sends(0, 2)", x.sends(0, 2), Check.NONE);
        check.due("way(-1)", x.way(-1), 100);
        check.due("way(99)", x.way(99), 1);
        check.due("way(100)", x.way(100), 0);
        check.due("way(101)", x.way(101), Check.NONE);
        check.due("used(0)", x.used(0), 100);
        check.due("count(7)", x.count(7), 100);
        check.due("sends(2, 0)", x.sends(2, 0), Check.NONE);
        check.due("undo()", x.undo(), 1);
        check.due("way(100) is back", x.way(100), 0);
        check.due("way(-1) is back", x.way(-1), 100);
    }

    private static void explores() {
        AskedRoutes x = check.told("n4;e0 1 1;e0 2 1;e0 3 1;x2;");
        check.due("COUNT 1: best", x.sends(0, 1), 1);
        // COUNT 2: by 2 and 3 never, the lowest of these; COUNT 3: best is 3, still 0; COUNT 4: by 1 MENDED longest ago.
        check.due("COUNT 2: explores", x.sends(0, 1), 5);
        way(x, "explored", 0, 2, 0, 3, 0, 1);
        check.due("node(0, 0)", x.node(0, 0), 4);
        check.due("node(0, 1)", x.node(0, 1), 2);
        check.due("node(2, 1)", x.node(2, 1), 0);
    }

    private static void exploresByOldGuesses() {
        AskedRoutes x = check.told("n3;e0 1 1;e0 2 1;e1 2 1;x3;f9;a2;");
        check.due("first", x.sends(1, 0), 1);
        check.due("second", x.sends(1, 0), 1);
        check.due("third explores by 2", x.sends(1, 0), 2);
        check.due("mended by 0", x.mended(1, 0, 0), 2);
        check.due("mended by 2", x.mended(1, 0, 2), 3);
        check.due("guess by 2", x.guess(1, 0, 2), 64 + 576);
        check.due("explored", x.node(1, 1), 1);
        check.due("fourth", x.sends(1, 0), 1);
        check.due("guess by 2 at an age of AGE", x.guess(1, 0, 2), 64 + 576);
        check.due("fifth", x.sends(1, 0), 1);
        // The GUESS by 2 is too old to be trusted, but it was MENDED at 3: longest ago.
        check.due("guess by 2, aged", x.guess(1, 0, 2), 576);
        check.due("sixth explores by 2 again", x.sends(1, 0), 2);
        check.due("explored twice", x.node(1, 1), 2);
        exploresAmongSix();
        x = check.told("e0 1 1;x1;");
        x.sends(0, 1);
        check.due("with EVERY 1 each explores", x.node(0, 1), 1);
    }

    private static void exploresAmongSix() {
        // The highest NODE's NEIGHBOURS are all never asked, so it explores 0 first, then 1, then the GOAL.
        AskedRoutes x = check.told("n6;e5 0 1;e5 1 1;e5 2 1;x1;");
        check.due("sends(5, 2)", x.sends(5, 2), 5);
        way(x, "explored by turns", 5, 0, 5, 1, 5, 2);
        check.due("sends(5, 2) again, by 0", x.sends(5, 2), 5);
        way(x, "explored by turns again", 5, 0, 5, 1, 5, 2);
        check.due("node(5, 1)", x.node(5, 1), 6);
    }

    private static void roundsGoInOrder() {
        String net = "n4;e0 1 2;e1 2 3;e2 3 4;e0 3 9;x3;h1;f2;a7;";
        AskedRoutes x = check.told(net);
        AskedRoutes y = check.told(net);
        int through = 0;
        for (int i = 0; i < 4 * 16; i++) {
            if (y.sends(i / 4 % 4, i % 4) >= 0) {
                through++;
            }
        }
        check.due("rounds(4)", x.rounds(4), through);
        check.due("one call can be undone", x.count(10), 1);
        check.due("TIME is as of the letters one by one", x.count(7), y.count(7));
        check.due("right() is as of the letters one by one", x.right(), y.right());
        check.due("rounds(1) without links", check.told("n6;").rounds(1), 0);
        check.due("rounds(1) of two", check.told("e0 1 1;").rounds(1), 2);
    }

    private static void roundsIsBad() {
        AskedRoutes x = check.told("e0 1 1;");
        check.due("rounds(0)", x.rounds(0), Check.BAD);
        check.due("rounds(5)", x.rounds(5), Check.BAD);
        check.due("rounds(-1)", x.rounds(-1), Check.BAD);
        for (int n : Check.BEYOND_ALL) {
            check.due("rounds(" + n + ")", x.rounds(n), Check.BAD);
        }
        check.due("nothing to undo", x.count(10), 0);
        check.due("rounds(4)", x.rounds(4), 8);
        check.due("rounds(1)", x.rounds(1), 2);
    }

    private static void cuts() {
        AskedRoutes x = check.told("n3;e0 1 1;e0 2 2;e1 2 3;");
        x.rounds(1);
        check.due("cuts(3)", x.cuts(3), Check.BAD);
        check.due("cuts(-1)", x.cuts(-1), Check.BAD);
        for (int l : Check.BEYOND_ALL) {
            check.due("cuts(" + l + ")", x.cuts(l), Check.BAD);
        }
        int kept = x.guess(0, 2, 2);
        int when = x.mended(2, 0, 0);
        check.holds("2 was asked for 0", when > 0);
        check.due("cuts(0)", x.cuts(0), 2);
        check.due("mended(2, 0, 0) stays", x.mended(2, 0, 0), when);
        check.due("least(0, 1)", x.least(0, 1), 5);
        check.due("least(1, 0)", x.least(1, 0), 5);
        check.due("link(0, 1)", x.link(0, 1), 2);
        check.due("guess(0, 2, 1)", x.guess(0, 2, 1), Check.STATE);
        check.due("guess(1, 2, 0)", x.guess(1, 2, 0), Check.STATE);
        check.due("guess(0, 2, 2) stays", x.guess(0, 2, 2), kept);
        check.due("lays(0, 1, 1)", x.lays(0, 1, 1), 3);
        check.due("mended(0, 1, 1)", x.mended(0, 1, 1), Check.NONE);
        check.due("mended(0, 2, 1)", x.mended(0, 2, 1), Check.NONE);
        check.due("mended(1, 0, 0)", x.mended(1, 0, 0), Check.NONE);
        check.due("mended(1, 2, 0)", x.mended(1, 2, 0), Check.NONE);
        check.due("used(0)", x.used(0), 0);
        check.due("cuts(2)", x.cuts(2), 2);
        check.due("cuts(1)", x.cuts(1), 1);
        check.due("cuts(0)", x.cuts(0), 0);
        check.due("cuts(0), none left", x.cuts(0), Check.BAD);
        check.due("least(1, 0), none left", x.least(1, 0), Check.NONE);
        x = check.told("n6;e4 5 1;");
        x.rounds(1);
        check.due("cuts(0) of the highest", x.cuts(0), 0);
    }

    private static void lays() {
        AskedRoutes x = check.told("n4;e0 3 5;f7;");
        x.sends(0, 3);
        check.due("lays(3, 1, 9)", x.lays(3, 1, 9), 2);
        check.due("lays(1, 0, 1)", x.lays(1, 0, 1), 3);
        int[][] rows = {{0, 1, 1}, {0, 3, 5}, {1, 3, 9}};
        for (int l = 0; l < 3; l++) {
            for (int what = 0; what < 3; what++) {
                check.due("link(" + l + ", " + what + ")", x.link(l, what), rows[l][what]);
            }
        }
        check.due("used goes with its link", x.used(1), 1);
        check.due("used(0)", x.used(0), 0);
        check.due("guess by it", x.guess(1, 3, 3), 448);
        check.due("node(1, 2)", x.node(1, 2), 2);
    }

    private static void laysIsRefused() {
        AskedRoutes x = check.told("n6;e0 1 1;e0 2 1;e0 3 1;e0 4 1;e0 5 1;e1 2 1;e1 3 1;e1 4 1;e1 5 1;");
        int[][] bad = {{0, 0, 1}, {2, 6, 1}, {6, 2, 1}, {-1, 2, 1}, {2, -1, 1}, {2, 3, 0}, {2, 3, 10}, {0, 1, 0}};
        for (int[] row : bad) {
            check.due("lays(" + row[0] + ", " + row[1] + ", " + row[2] + ")", x.lays(row[0], row[1], row[2]), Check.BAD);
        }
        for (int number : Check.BEYOND_ALL) {
            check.due("lays(" + number + ", 2, 1)", x.lays(number, 2, 1), Check.BAD);
            check.due("lays(2, " + number + ", 1)", x.lays(2, number, 1), Check.BAD);
            check.due("lays(2, 3, " + number + ")", x.lays(2, 3, number), Check.BAD);
        }
        check.due("lays(1, 0, 1)", x.lays(1, 0, 1), Check.STATE);
        check.due("lays(2, 3, 1)", x.lays(2, 3, 1), 10);
        check.due("lays(2, 4, 1), the eleventh", x.lays(2, 4, 1), Check.FULL);
        check.due("lays(3, 2, 1), STATE ahead of FULL", x.lays(3, 2, 1), Check.STATE);
        check.due("lays(2, 4, 0), BAD ahead of FULL", x.lays(2, 4, 0), Check.BAD);
        check.due("one can be undone", x.count(10), 1);
    }

    private static void changes() {
        AskedRoutes x = check.told("n3;e0 1 2;e1 2 5;");
        x.sends(0, 1);
        check.due("changes(0, 9)", x.changes(0, 9), 2);
        check.due("link(0, 2)", x.link(0, 2), 9);
        check.due("guess stays", x.guess(0, 1, 1), 128);
        check.due("mended stays", x.mended(0, 1, 1), 1);
        check.due("used stays", x.used(0), 1);
        check.due("least(1, 0), too", x.least(1, 0), 9);
        check.due("changes(0, 9) again", x.changes(0, 9), Check.STATE);
        check.due("changes(2, 1)", x.changes(2, 1), Check.BAD);
        check.due("changes(-1, 1)", x.changes(-1, 1), Check.BAD);
        check.due("changes(0, 0)", x.changes(0, 0), Check.BAD);
        check.due("changes(0, 10)", x.changes(0, 10), Check.BAD);
        for (int number : Check.BEYOND_ALL) {
            check.due("changes(" + number + ", 1)", x.changes(number, 1), Check.BAD);
            check.due("changes(0, " + number + ")", x.changes(0, number), Check.BAD);
        }
        check.due("changes(1, 1)", x.changes(1, 1), 5);
        check.due("three can be undone", x.count(10), 3);
        check.due("LINKS", x.count(1), 2);
    }

    private static void undoKnowsEight() {
        AskedRoutes x = check.told("e0 1 1;");
        for (int i = 0; i < 11; i++) {
            x.changes(0, i % 2 == 0 ? 2 : 1);
            check.due("count(10)", x.count(10), Math.min(i + 1, 8));
        }
        for (int left = 7; left >= 0; left--) {
            check.due("undo()", x.undo(), left);
        }
        check.due("undo() of the ninth", x.undo(), Check.STATE);
        check.due("as behind the third", x.link(0, 2), 2);
        check.due("changes(0, 5)", x.changes(0, 5), 2);
        check.due("undo()", x.undo(), 0);
        check.due("as behind the third again", x.link(0, 2), 2);
    }

    private static void undoOfEach() {
        AskedRoutes x = check.told("n3;e0 1 2;e1 2 5;e0 2 1;");
        x.sends(1, 2);
        int time = x.count(7);
        x.sends(0, 2);
        check.due("undo() of sends", x.undo(), 1);
        check.due("sends undone", x.count(7), time);
        x.cuts(2);
        x.undo();
        check.due("cuts undone", x.count(1), 3);
        x.changes(2, 9);
        x.undo();
        check.due("changes undone", x.link(2, 2), 5);
        x.rounds(4);
        x.undo();
        check.due("rounds undone", x.count(7), time);
        x.sees(0, 1, 1);
        x.keep(0);
        x.undo();
        check.due("SEEN is not undone", x.count(8), 1);
        check.due("an image is not undone", x.back(0), 3);
    }

    private static void refusedCallsAreNotUndone() {
        AskedRoutes x = check.told("n3;e0 1 2;");
        x.sends(0, 0);
        x.rounds(5);
        x.cuts(1);
        x.lays(0, 1, 3);
        x.lays(0, 0, 3);
        x.changes(0, 2);
        x.changes(1, 2);
        check.due("count(10)", x.count(10), 0);
        check.due("undo()", x.undo(), Check.STATE);
    }

    private static void ways() {
        AskedRoutes x = check.told("e0 1 2;");
        check.due("way(-1), no letter", x.way(-1), Check.NONE);
        check.due("way(0), no letter", x.way(0), Check.NONE);
        check.due("way(-2), no letter", x.way(-2), Check.BAD);
        x.sends(1, 0);
        way(x, "one hop", 1, 0);
        check.due("way(-2)", x.way(-2), Check.BAD);
        check.due("way(least)", x.way(Integer.MIN_VALUE), Check.BAD);
        check.due("way(most)", x.way(Integer.MAX_VALUE), Check.NONE);
        x.rounds(1);
        way(x, "the last of a round", 1, 0);
        x.undo();
        x.undo();
        check.due("way(-1), undone", x.way(-1), Check.NONE);
    }
}
