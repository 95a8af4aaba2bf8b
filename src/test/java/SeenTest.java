/** Promises 24 to 28: which link was cut, and images. */
public final class SeenTest {
    private static final Check check = new Check("SeenTest");
    private static final String NET = "n4;e0 1 1;e1 2 2;e0 2 9;e2 3 4;";

    public static void main(String[] args) {
        sees();
        seesIsRefused();
        forgets();
        unseens();
        unseenGoesByTheLinksOfNow();
        keepsAndBacks();
        imagesAreTwo();
        imagesKeepNothingElse();
        imageIsRefused();
        check.end();
    }

    private static void sees() {
        AskedRoutes x = check.told(NET);
        for (int i = 1; i <= 6; i++) {
            check.due("sees the " + i + "th", x.sees(0, 1, 99), i);
            check.due("count(8)", x.count(8), i);
        }
        check.due("sees the 7th", x.sees(0, 1, 99), Check.FULL);
        check.due("sees the 7th, bad", x.sees(0, 0, 99), Check.BAD);
        check.due("count(8)", x.count(8), 6);
        check.due("nothing to undo", x.count(10), 0);
    }

    private static void seesIsRefused() {
        AskedRoutes x = check.told(NET);
        int[][] bad = {{0, 0, 1}, {4, 0, 1}, {0, 4, 1}, {-1, 0, 1}, {0, -1, 1}, {0, 1, -1}, {0, 1, 100}};
        for (int[] row : bad) {
            check.due("sees of " + row[0] + row[1] + row[2], x.sees(row[0], row[1], row[2]), Check.BAD);
        }
        for (int number : Check.BEYOND_ALL) {
            check.due("sees(" + number + ", 0, 1)", x.sees(number, 0, 1), Check.BAD);
            check.due("sees(0, " + number + ", 1)", x.sees(0, number, 1), Check.BAD);
            check.due("sees(0, 1, " + number + ")", x.sees(0, 1, number), Check.BAD);
        }
        check.due("sees(0, 1, 0)", x.sees(0, 1, 0), 1);
        check.due("sees(0, 1, 99)", x.sees(0, 1, 99), 2);
    }

    private static void forgets() {
        AskedRoutes x = check.told(NET);
        check.due("forget() of nothing", x.forget(), 0);
        x.sees(0, 1, 5);
        x.sees(0, 2, 5);
        check.due("unseen() of what can't be", x.unseen(), 0);
        check.due("forget()", x.forget(), 2);
        check.due("forget() again", x.forget(), 0);
        check.due("unseen(), all", x.unseen(), 15);
        check.due("sees(0, 1, 1)", x.sees(0, 1, 1), 1);
    }

    private static void unseens() {
        AskedRoutes x = check.told(NET);
        check.due("unseen(), nothing seen", x.unseen(), 15);
        x.sees(2, 0, 9);
        check.due("0-2 is 9 without 0-1 or 1-2", x.unseen(), 0b0101);
        x.sees(0, 1, 1);
        check.due("and 0-1 is 1", x.unseen(), 0b0100);
        x.sees(0, 3, 14);
        check.due("and 0-3 is 14, never", x.unseen(), 0);
        x.forget();
        x.sees(3, 1, 0);
        check.due("no way to 3", x.unseen(), 0b1000);
        x.forget();
        x.sees(0, 1, 0);
        check.due("no way from 0 to 1", x.unseen(), 0);
        check.due("unseen() without links", new AskedRoutes().unseen(), 0);
        x = check.told("n6;e0 1 1;e0 2 1;e0 3 1;e0 4 1;e0 5 1;e1 2 1;e1 3 1;e1 4 1;e1 5 1;e2 3 1;");
        check.due("unseen() of ten", x.unseen(), 1023);
    }

    private static void unseenGoesByTheLinksOfNow() {
        AskedRoutes x = check.told(NET);
        x.sees(2, 0, 9);
        x.cuts(1);
        check.due("unseen() behind cuts(1)", x.unseen(), 0);
        x.undo();
        x.changes(1, 8);
        check.due("unseen() behind changes(1, 8)", x.unseen(), 0);
        check.due("SEEN stays", x.count(8), 1);
    }

    private static void keepsAndBacks() {
        AskedRoutes x = check.told(NET + "x3;");
        x.rounds(1);
        int time = x.count(7);
        check.due("keep(0)", x.keep(0), 4);
        x.cuts(0);
        x.sends(0, 3);
        x.lays(1, 3, 7);
        x.changes(0, 3);
        x.cuts(1);
        check.due("LINKS now", x.count(1), 3);
        check.due("keep(1)", x.keep(1), 3);
        check.due("back(0)", x.back(0), 4);
        check.due("nothing can be undone", x.count(10), 0);
        check.due("undo()", x.undo(), Check.STATE);
        check.due("TIME is back", x.count(7), time);
        x.sends(0, 3);
        check.due("back(0) again", x.back(0), 4);
        check.due("an image stays as it was kept", x.count(7), time);
        check.due("back(1)", x.back(1), 3);
    }

    private static void imagesAreTwo() {
        AskedRoutes x = check.told("n3;e0 1 1;");
        x.keep(0);
        x.lays(1, 2, 1);
        x.keep(1);
        x.lays(0, 2, 1);
        check.due("back(0)", x.back(0), 1);
        check.due("back(1)", x.back(1), 2);
        x.keep(0);
        x.cuts(0);
        check.due("back(0), kept anew", x.back(0), 2);
        check.due("the link", x.link(0, 0), 0);
    }

    private static void imagesKeepNothingElse() {
        AskedRoutes x = check.told("n3;e0 1 1;");
        x.sees(0, 1, 2);
        x.type('n');
        x.keep(0);
        x.sees(0, 2, 3);
        x.type('3');
        x.sends(0, 1);
        check.due("back(0)", x.back(0), 1);
        check.due("SEEN is not kept", x.count(8), 2);
        check.due("THE TEXT is not kept", x.count(9), 2);
        check.due("the way is kept", x.way(-1), Check.NONE);
        x.sends(1, 0);
        x.keep(1);
        x.sends(0, 1);
        x.back(1);
        check.due("the way of that letter", x.way(0), 1);
    }

    private static void imageIsRefused() {
        AskedRoutes x = check.told("n3;e0 1 1;");
        x.sends(0, 1);
        check.due("back(0)", x.back(0), Check.STATE);
        check.due("keep(0)", x.keep(0), 1);
        check.due("back(1)", x.back(1), Check.STATE);
        check.due("what can be undone stays", x.count(10), 1);
        check.due("keep(2)", x.keep(2), Check.BAD);
        check.due("keep(-1)", x.keep(-1), Check.BAD);
        check.due("back(2)", x.back(2), Check.BAD);
        check.due("back(-1)", x.back(-1), Check.BAD);
        for (int number : Check.BEYOND_ALL) {
            check.due("keep(" + number + ")", x.keep(number), Check.BAD);
            check.due("back(" + number + ")", x.back(number), Check.BAD);
        }
    }
}
