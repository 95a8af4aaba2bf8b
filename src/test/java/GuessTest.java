/** Promises 12 to 16: guesses. */
public final class GuessTest {
    private static final Check check = new Check("GuessTest");

    public static void main(String[] args) {
        guessAtFirst();
        guessIsHalved();
        guessAges();
        guessHasAMost();
        toldByTheBestOfNow();
        chosenAheadOfTime();
        guessIsRefused();
        bests();
        nodes();
        useds();
        check.end();
    }

    private static void guessAtFirst() {
        AskedRoutes x = check.told("n3;e0 1 2;e1 2 3;f99;");
        check.due("guess(0, 1, 1)", x.guess(0, 1, 1), 64 * 99);
        check.due("guess(0, 2, 1)", x.guess(0, 2, 1), 64 * 99);
        check.due("mended(0, 2, 1)", x.mended(0, 2, 1), Check.NONE);
        check.due("without f", check.told("e0 1 2;").guess(0, 1, 1), 0);
    }

    private static void guessIsHalved() {
        int[] once = {128, 96, 80, 72};
        for (int halves = 0; halves <= 3; halves++) {
            AskedRoutes x = check.told("e0 1 2;f1;h" + halves + ";");
            x.sends(0, 1);
            check.due("guess upwards by h" + halves, x.guess(0, 1, 1), once[halves]);
        }
        // TOLD 64, O 128 downwards: -64 by 8 is -8; then -56 by 8 is -7; -49 by 8 is -7, the lower one; then -42: -6.
        AskedRoutes x = check.told("e0 1 1;f2;h3;");
        int[] due = {120, 113, 106, 100};
        for (int i = 0; i < due.length; i++) {
            x.sends(0, 1);
            check.due("guess downwards", x.guess(0, 1, 1), due[i]);
        }
        // TOLD 192, O 0: 48, then 36 more; 108 by 4 is 27 more; 81 by 4 is 20, the lower one.
        x = check.told("e0 1 3;h2;");
        due = new int[] {48, 84, 111, 131};
        for (int i = 0; i < due.length; i++) {
            x.sends(0, 1);
            check.due("guess upwards", x.guess(0, 1, 1), due[i]);
        }
    }

    private static void guessAges() {
        AskedRoutes x = check.told("n4;e0 1 5;e2 3 1;a3;f2;h1;");
        x.sends(0, 1);
        check.due("guess at 1", x.guess(0, 1, 1), 128 + 96);
        for (int i = 0; i < 3; i++) {
            x.sends(2, 3);
        }
        check.due("guess at 4, of 1", x.guess(0, 1, 1), 224);
        check.due("TIME", x.count(7), 4);
        // At TIME 4 it is trusted still; the next HOP is at TIME 5, so O is 64 times FIRST again.
        x.sends(0, 1);
        check.due("guess at 5, O as it was at this TIME", x.guess(0, 1, 1), 224);
        check.due("mended at 5", x.mended(0, 1, 1), 5);
        x.sends(0, 1);
        check.due("guess at 6, O of 5", x.guess(0, 1, 1), 224 + 48);
        for (int i = 0; i < 4; i++) {
            x.sends(2, 3);
        }
        check.due("guess at 10, of 6", x.guess(0, 1, 1), 128);
        check.due("mended is told still", x.mended(0, 1, 1), 6);
    }

    private static void guessHasAMost() {
        AskedRoutes x = check.told("n3;e0 1 9;l99;a99;f99;");
        int most = 0;
        for (int i = 0; i < 100; i++) {
            x.sends(0, 2);
            most = Math.max(most, Math.max(x.guess(0, 2, 1), x.guess(1, 2, 0)));
        }
        check.due("guess of what can't be reached", most, 63936);
        check.due("guess in the end", x.guess(0, 2, 1), 63936);
    }

    private static void toldByTheBestOfNow() {
        // 1's GUESS by 0 is 64, MENDED at 1; AGE 1. Asked at TIME 2 it is trusted, at TIME 3 it is not.
        AskedRoutes x = check.told("n4;e0 1 1;e1 2 3;e2 3 1;a1;f9;");
        x.sends(1, 0);
        check.due("guess(1, 0, 0) at 1", x.guess(1, 0, 0), 64);
        check.due("sends(2, 0)", x.sends(2, 0), 4);
        check.due("guess(2, 0, 1): 192 and 64", x.guess(2, 0, 1), 192 + 64);
        x = check.told("n4;e0 1 1;e1 2 3;e2 3 1;a1;f9;");
        x.sends(1, 0);
        check.due("sends(3, 2)", x.sends(3, 2), 1);
        check.due("sends(2, 0), later", x.sends(2, 0), 4);
        check.due("guess(2, 0, 1): 192 and 576", x.guess(2, 0, 1), 192 + 576);
    }

    private static void chosenAheadOfTime() {
        // At TIME 2 the GUESS of 0 by 2, MENDED at 1, is trusted for the last time (AGE 1): the HOP is chosen by it.
        AskedRoutes x = check.told("n3;e0 2 1;e1 2 1;a1;f9;");
        check.due("sends(0, 2) at 0", x.sends(0, 2), 1);
        x.lays(0, 1, 9);
        check.due("sends(2, 0) at 1", x.sends(2, 0), 1);
        check.due("guess(0, 2, 2) at 2", x.guess(0, 2, 2), 64);
        check.due("best(0, 2) at 2", x.best(0, 2), 2);
        check.due("sends(0, 2) at 2", x.sends(0, 2), 1);
    }

    private static void guessIsRefused() {
        AskedRoutes x = check.told("n4;e0 1 2;e1 2 3;");
        int[][] bad = {{0, 0, 1}, {4, 0, 1}, {0, 4, 1}, {0, 1, 4}, {-1, 0, 1}, {0, -1, 1}, {0, 1, -1}, {3, 3, 0}};
        for (int[] row : bad) {
            check.due("guess of " + row[0] + row[1] + row[2], x.guess(row[0], row[1], row[2]), Check.BAD);
            check.due("mended of " + row[0] + row[1] + row[2], x.mended(row[0], row[1], row[2]), Check.BAD);
        }
        int[][] state = {{0, 1, 2}, {0, 1, 0}, {3, 0, 1}, {0, 3, 3}};
        for (int[] row : state) {
            check.due("guess of " + row[0] + row[1] + row[2], x.guess(row[0], row[1], row[2]), Check.STATE);
            check.due("mended of " + row[0] + row[1] + row[2], x.mended(row[0], row[1], row[2]), Check.STATE);
        }
        for (int number : Check.BEYOND_ALL) {
            check.due("guess(" + number + ", 0, 1)", x.guess(number, 0, 1), Check.BAD);
            check.due("guess(0, " + number + ", 1)", x.guess(0, number, 1), Check.BAD);
            check.due("guess(0, 1, " + number + ")", x.guess(0, 1, number), Check.BAD);
            check.due("mended(" + number + ", 0, 1)", x.mended(number, 0, 1), Check.BAD);
            check.due("mended(0, " + number + ", 1)", x.mended(0, number, 1), Check.BAD);
            check.due("mended(0, 1, " + number + ")", x.mended(0, 1, number), Check.BAD);
        }
    }

    private static void bests() {
        AskedRoutes x = check.told("n4;e0 1 2;e0 2 1;");
        check.due("best(0, 2), the lowest", x.best(0, 2), 1);
        check.due("best(0, 3), of a goal without links", x.best(0, 3), 1);
        check.due("best(3, 0)", x.best(3, 0), Check.NONE);
        x.sends(0, 1);
        check.due("best(0, 1), the least", x.best(0, 1), 2);
        check.due("best(0, 2), another goal", x.best(0, 2), 1);
        check.due("best(0, 0)", x.best(0, 0), Check.BAD);
        check.due("best(4, 0)", x.best(4, 0), Check.BAD);
        check.due("best(0, 4)", x.best(0, 4), Check.BAD);
        for (int number : Check.BEYOND_ALL) {
            check.due("best(" + number + ", 0)", x.best(number, 0), Check.BAD);
            check.due("best(0, " + number + ")", x.best(0, number), Check.BAD);
        }
    }

    private static void nodes() {
        AskedRoutes x = check.told("n3;e0 1 2;x2;");
        x.sends(0, 1);
        x.sends(0, 1);
        x.sends(0, 1);
        x.sends(1, 0);
        int[][] due = {{3, 1, 1}, {1, 0, 1}, {0, 0, 0}};
        for (int u = 0; u < 3; u++) {
            for (int what = 0; what < 3; what++) {
                check.due("node(" + u + ", " + what + ")", x.node(u, what), due[u][what]);
            }
        }
        check.due("node(3, 0)", x.node(3, 0), Check.BAD);
        check.due("node(-1, 0)", x.node(-1, 0), Check.BAD);
        check.due("node(0, 3)", x.node(0, 3), Check.BAD);
        check.due("node(0, -1)", x.node(0, -1), Check.BAD);
        for (int number : Check.BEYOND_ALL) {
            check.due("node(" + number + ", 0)", x.node(number, 0), Check.BAD);
            check.due("node(0, " + number + ")", x.node(0, number), Check.BAD);
        }
    }

    private static void useds() {
        AskedRoutes x = check.told("n3;e0 1 2;e1 2 3;");
        x.sends(0, 2);
        check.due("used(0), both ways", x.used(0), 3);
        check.due("used(1)", x.used(1), 1);
        check.due("used(2)", x.used(2), Check.BAD);
        check.due("used(-1)", x.used(-1), Check.BAD);
        for (int number : Check.BEYOND_ALL) {
            check.due("used(" + number + ")", x.used(number), Check.BAD);
        }
        x.cuts(0);
        check.due("used(0), the other one now", x.used(0), 1);
        x.lays(0, 1, 2);
        check.due("used(0), laid again", x.used(0), 0);
        x.undo();
        x.undo();
        check.due("used(0), undone", x.used(0), 3);
    }
}
