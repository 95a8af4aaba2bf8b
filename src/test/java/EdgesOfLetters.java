import java.util.ArrayList;
import java.util.List;

/** Part 2 of the terms and promises 6 to 16: letters, guesses, links cut, laid, changed, undone. */
final class EdgesOfLetters {
    /** Each GUESS has its own TIME behind a round of it; EdgesOfLetters.rounds() has them one by one. */
    private static final String TRIANGLE = "<n3;e0 1 1;e0 2 1;e1 2 1;>=4 ";

    private final List<Edge> rows = new ArrayList<>();

    private EdgesOfLetters() { }

    static List<Edge> rows() {
        EdgesOfLetters edges = new EdgesOfLetters();
        edges.guesses();
        edges.bests();
        edges.lost();
        edges.explores();
        edges.exploresTo();
        edges.hops();
        edges.mends();
        edges.halves();
        edges.mostOfAGuess();
        edges.life();
        edges.rounds();
        edges.cuts();
        edges.lays();
        edges.changes();
        edges.undo();
        edges.undoOfEach();
        edges.askedOfGuesses();
        edges.askedOfNodesAndLinks();
        return edges.rows;
    }

    private void add(String words, String script) {
        rows.add(new Edge(words, script));
    }

    private void guesses() {
        add("GUESS in 64ths", "<e0 1 5;>=1 sends(0,1)=5 guess(0,1,1)=320");
        add("GUESS: 64 times FIRST, if it was never MENDED", "<e0 1 5;f99;>=2 guess(0,1,1)=6336 guess(1,0,0)=6336");
        add("GUESS: 64 times FIRST, 0 of 0", "<e0 1 5;f0;>=2 guess(0,1,1)=0");
        add("GUESS: of another NODE, GOAL, NEIGHBOUR than MENDED", "<n3;e0 1 1;e0 2 1;f2;>=4 sends(0,1)=1 guess(0,1,1)=64 guess(1,0,0)=128 guess(0,2,1)=128 guess(0,1,2)=128");
        String two = "<n4;e0 1 5;e2 3 1;f9;a";
        add("GUESS: TIME less MENDED is AGE", two + "2;>=5 sends(0,1)=5 sends(2,3)=1 sends(2,3)=1 count(7)=3 guess(0,1,1)=320");
        add("GUESS: TIME less MENDED is above AGE", two + "2;>=5 sends(0,1)=5 sends(2,3)=1 sends(2,3)=1 sends(2,3)=1 count(7)=4 guess(0,1,1)=576");
        add("GUESS: AGE 1, at 1", two + "1;>=5 sends(0,1)=5 guess(0,1,1)=320 sends(2,3)=1 guess(0,1,1)=320");
        add("GUESS: AGE 1, at 2", two + "1;>=5 sends(0,1)=5 sends(2,3)=1 sends(2,3)=1 guess(0,1,1)=576");
        add("GUESS: AGE 99, at 99", two + "99;>=5 sends(0,1)=5 " + "sends(2,3)=1 ".repeat(99) + "count(7)=100 guess(0,1,1)=320");
        add("GUESS: AGE 99, at 100", two + "99;>=5 sends(0,1)=5 " + "sends(2,3)=1 ".repeat(100) + "count(7)=101 guess(0,1,1)=576");
        add("GUESS: MENDED last, not at first", two + "2;>=5 sends(0,1)=5 sends(2,3)=1 sends(0,1)=5 sends(2,3)=1 sends(2,3)=1 guess(0,1,1)=320 mended(0,1,1)=3");
        add("GUESS: too old, MENDED again", two + "1;>=5 sends(0,1)=5 sends(2,3)=1 sends(2,3)=1 guess(0,1,1)=576 sends(0,1)=5 guess(0,1,1)=320");
        add("GUESS: too old for best(), too", "<n5;e0 1 9;e0 2 1;e3 4 1;f5;a1;>=6 sends(0,1)=9 sends(3,4)=1 best(0,1)=2 sends(3,4)=1 best(0,1)=1");
    }

    private void bests() {
        add("BEST: least", "<n3;e0 1 1;e0 2 1;>=3 sends(0,1)=1 best(0,1)=2");
        add("BEST: of several the lowest", "<n4;e0 1 1;e0 2 1;e0 3 1;>=4 best(0,1)=1 best(0,2)=1 best(0,3)=1");
        add("BEST: of several the lowest, not 0", "<n4;e3 1 1;e3 2 1;e0 2 1;>=4 best(3,0)=1 best(2,1)=0");
        add("BEST: of several that are MENDED, the lowest", "<n4;e0 2 1;e0 3 1;e1 2 1;e1 3 1;x1;>=6 sends(0,1)=6 guess(0,1,2)=64 guess(0,1,3)=64 best(0,1)=2");
        add("BEST: NONE", "<n3;e0 1 1;>=2 best(2,0)=NONE best(2,1)=NONE");
        add("BEST: a NEIGHBOUR even of a GOAL that can't be come to", "<n3;e0 1 1;>=2 best(0,2)=1 best(1,2)=0");
        add("14: BAD, d is u", "<n3;e0 1 1;>=2 best(0,0)=BAD best(2,2)=BAD");
    }

    private void lost() {
        add("6: no NEIGHBOUR: LOST", "<n3;e0 1 1;>=2 sends(2,0)=NONE");
        add("no NEIGHBOUR: COUNT stays", "<n3;e0 1 1;>=2 sends(2,0)=NONE node(2,0)=0");
        add("no NEIGHBOUR: none EXPLORES", "<n3;e0 1 1;x1;>=3 sends(2,0)=NONE node(2,1)=0");
        add("no NEIGHBOUR: TIME stays", "<n3;e0 1 1;>=2 sends(2,0)=NONE count(7)=0");
        add("no NEIGHBOUR: a WAY without HOPS", "<n3;e0 1 1;>=2 sends(2,0)=NONE way(-1)=0 way(0)=2 way(1)=NONE");
        add("no NEIGHBOUR: it can be UNDONE", "<n3;e0 1 1;>=2 sends(2,0)=NONE count(10)=1 undo()=0 way(-1)=NONE");
        add("6: BAD, one and itself", "<n3;e0 1 1;>=2 sends(0,0)=BAD sends(2,2)=BAD count(10)=0 way(-1)=NONE");
        add("6: THROUGH: WORTH", "<n3;e0 1 9;e1 2 4;>=3 sends(2,0)=13");
    }

    private void explores() {
        String pair = "<e0 1 1;x";
        add("EVERY 0: never", pair + "0;>=2 " + "sends(0,1)=1 ".repeat(10) + "node(0,0)=10 node(0,1)=0");
        add("EVERY 1: each", pair + "1;>=2 sends(0,1)=1 node(0,1)=1 sends(0,1)=1 node(0,1)=2");
        add("EVERY 2 divides COUNT", pair + "2;>=2 sends(0,1)=1 node(0,1)=0 sends(0,1)=1 node(0,1)=1 sends(0,1)=1 node(0,1)=1 sends(0,1)=1 node(0,1)=2");
        add("EVERY 9 divides COUNT", pair + "9;>=2 " + "sends(0,1)=1 ".repeat(8) + "node(0,1)=0 sends(0,1)=1 node(0,1)=1");
        add("COUNT is each NODE's own", pair + "2;>=2 sends(0,1)=1 sends(1,0)=1 node(0,1)=0 node(1,1)=0 sends(1,0)=1 node(0,1)=0 node(1,1)=1");
        add("COUNT of u is 1 more, the GOAL's is not", "<n3;e0 1 1;e1 2 1;>=3 sends(2,0)=2 node(2,0)=1 node(1,0)=1 node(0,0)=0");
        add("COUNT is of all GOALS together", "<n3;e0 1 1;e0 2 1;x2;>=4 sends(0,1)=1 node(0,1)=0 sends(0,2)=3 node(0,0)=3 node(0,1)=1");
    }

    private void exploresTo() {
        // FIRST is 9, so BEST of 0 to 1 is 1 from the first LETTER on: only a LETTER that EXPLORES goes by 2.
        String net = "<n3;e0 1 1;e0 2 1;e1 2 1;x2;f9;>=6 sends(0,1)=1 ";
        add("EXPLORES: never is longest of all", net + "best(0,1)=1 sends(0,1)=3 way(1)=2 way(2)=0 way(3)=1 mended(0,1,2)=2");
        add("EXPLORES: MENDED longest ago", net + "sends(0,1)=3 mended(0,1,1)=4 mended(0,1,2)=2 best(0,1)=1 sends(0,1)=2 way(1)=2 way(2)=1 mended(0,1,2)=5");
        add("does not EXPLORE: to BEST", net + "sends(0,1)=3 sends(0,1)=2 best(0,1)=1 sends(0,1)=1 node(0,0)=5 node(0,1)=2");
        add("EXPLORES: of several the lowest", "<n4;e0 1 1;e0 2 1;e0 3 1;x1;>=5 sends(0,3)=5 way(1)=1 way(3)=2 way(5)=3 way(6)=NONE");
        add("EXPLORES: longest ago of all MENDED, by turns", "<n4;e0 1 1;e0 2 1;e0 3 1;x1;>=5 sends(0,3)=5 sends(0,3)=5 way(1)=1 way(3)=2 way(5)=3");
        add("EXPLORES: too old is not never", "<n5;e0 1 1;e0 2 1;e1 2 1;e3 4 1;x2;f9;a1;>=8 sends(0,1)=1 sends(3,4)=1 sends(3,4)=1 guess(0,1,1)=576 sends(0,1)=3 way(1)=2");
        add("EXPLORES: by the GUESS to the GOAL, not to others", net + "sends(0,2)=3 way(1)=1 mended(0,2,1)=2 mended(0,2,2)=4");
    }

    private void hops() {
        add("TIME is 1 more by each HOP", "<n3;e0 1 1;e1 2 1;>=3 sends(2,0)=2 count(7)=2 sends(0,1)=1 count(7)=3");
        add("An object is used for at most 512 calls: the last of them", "<e0 1 1;>=1 " + "sends(0,1)=1 ".repeat(503) + "used(0)=503");
        add("An object is used for at most 512 calls: dear ones", "<n6;e0 1 1;l99;>=3 " + "rounds(4)=8 ".repeat(490) + "count(7)=1571920 count(10)=8 undo()=7 count(7)=1568712");
        add("WORTH is 0 at first for each LETTER", "<e0 1 4;>=1 sends(0,1)=4 sends(0,1)=4");
        // The GUESS of 0 by 2 is trusted for the last time at TIME 2; at 3, BEST would be 1.
        String last = "<n3;e0 2 1;e1 2 1;a1;f9;>=5 sends(0,2)=1 lays(0,1,9)=3 sends(2,0)=1 ";
        add("to BEST ahead of TIME being 1 more", last + "count(7)=2 best(0,2)=2 sends(0,2)=1 way(1)=2");
        add("to BEST ahead of TIME being 1 more: a HOP later", last + "sends(2,0)=1 count(7)=3 best(0,2)=1");
        add("used by each HOP, in both orders", "<n3;e0 1 2;e1 2 3;>=3 sends(0,2)=9 used(0)=3 used(1)=1");
        add("The WAY: each HOP", "<n3;e0 1 2;e1 2 3;>=3 sends(0,2)=9 way(-1)=4 way(0)=0 way(1)=1 way(2)=0 way(3)=1 way(4)=2 way(5)=NONE");
        add("The WAY of the latest LETTER alone", "<n3;e0 1 2;e1 2 3;>=3 sends(0,2)=9 sends(1,0)=2 way(-1)=1 way(0)=1 way(1)=0 way(2)=NONE");
    }

    private void mends() {
        add("TOLD, v is the GOAL: 64 times the DELAY", "<e0 1 9;f50;>=2 sends(0,1)=9 guess(0,1,1)=576");
        String line = "<n3;e0 1 2;e1 2 3;f5;>=4 sends(0,2)=9 ";
        add("TOLD, v is not the GOAL: and its GUESS by its BEST", line + "guess(0,2,1)=448");
        add("TOLD, v is not the GOAL: by BEST, which may be back", line + "guess(1,2,0)=576");
        add("TOLD, v is the GOAL at the end", line + "guess(1,2,2)=192");
        add("MENDED now, at TIME", line + "mended(0,2,1)=3 mended(1,2,0)=2 mended(1,2,2)=4");
        add("Only the GUESS of u to the GOAL by v is MENDED", line + "mended(0,1,1)=NONE mended(1,0,0)=NONE mended(1,0,2)=NONE mended(2,0,1)=NONE mended(2,1,1)=NONE");
        String old = "<n4;e0 1 5;e2 3 1;a3;f2;h1;>=6 sends(0,1)=5 guess(0,1,1)=224 sends(2,3)=1 sends(2,3)=1 ";
        add("O as the GUESS was at this TIME: of AGE", old + "sends(0,1)=5 count(7)=4 guess(0,1,1)=272");
        add("O as the GUESS was at this TIME: above AGE", old + "sends(2,3)=1 guess(0,1,1)=224 sends(0,1)=5 count(7)=5 guess(0,1,1)=224");
        String asked = "<n4;e0 1 1;e1 2 3;e2 3 1;a1;f9;>=6 sends(1,0)=1 ";
        add("TOLD at this TIME: of AGE", asked + "sends(2,0)=4 guess(2,0,1)=256");
        add("TOLD at this TIME: above AGE", asked + "sends(3,2)=1 guess(1,0,0)=64 sends(2,0)=4 guess(2,0,1)=768");
    }

    private void halves() {
        int[] due = {128, 96, 80, 72};
        for (int h = 0; h <= 3; h++) {
            add("by 2 to the power of HALVES: " + h, "<e0 1 2;f1;h" + h + ";>=3 sends(0,1)=2 guess(0,1,1)=" + due[h]);
        }
        add("the lower whole number, above 0", "<e0 1 1;h1;>=2 " + "sends(0,1)=1 ".repeat(6) + "guess(0,1,1)=63 sends(0,1)=1 guess(0,1,1)=63");
        add("the lower whole number, below 0", "<e0 1 1;f2;h1;>=3 " + "sends(0,1)=1 ".repeat(6) + "guess(0,1,1)=65 sends(0,1)=1 guess(0,1,1)=64");
        add("the lower whole number, below 0, by 8", "<e0 1 1;f2;h3;>=3 sends(0,1) guess(0,1,1)=120 sends(0,1) guess(0,1,1)=113 sends(0,1) guess(0,1,1)=106 sends(0,1) guess(0,1,1)=100");
        add("the lower whole number, by 4", "<e0 1 3;h2;>=2 sends(0,1) guess(0,1,1)=48 sends(0,1) guess(0,1,1)=84 sends(0,1) guess(0,1,1)=111 sends(0,1) guess(0,1,1)=131");
        add("HALVES 0: TOLD alone", "<e0 1 1;f99;>=2 sends(0,1)=1 guess(0,1,1)=64");
    }

    private void mostOfAGuess() {
        // 12 HOPS by LETTER; each HOP's GUESS is 576 above the one ahead of it, the 100th is 63936.
        String net = "<n3;e0 1 9;l99;f99;>=4 " + "sends(0,2)=NONE ".repeat(8);
        add("63936 at most: below it", net + "count(7)=96 guess(0,2,1)=61056 guess(1,2,0)=61632");
        add("63936 at most", net + "sends(0,2)=NONE count(7)=108 guess(0,2,1)=63936 guess(1,2,0)=63936");
        add("63936 at most, ever after", net + "sends(0,2) sends(0,2) sends(0,2) guess(0,2,1)=63936 guess(1,2,0)=63936");
        add("63936 itself", "<n3;e0 1 9;l27;f99;>=4 " + "sends(0,2)=NONE ".repeat(25) + "count(7)=100 guess(1,2,0)=63936 guess(0,2,1)=63360");
    }

    private void life() {
        add("WORTH is LIFE: on", "<n3;e0 1 4;l4;>=3 sends(0,2)=NONE way(-1)=2");
        add("WORTH is above LIFE: LOST", "<n3;e0 1 4;l3;>=3 sends(0,2)=NONE way(-1)=1");
        add("WORTH is below LIFE: on", "<n3;e0 1 4;l5;>=3 sends(0,2)=NONE way(-1)=2");
        add("v is the GOAL: THROUGH, WORTH being above LIFE", "<e0 1 9;l1;>=2 sends(0,1)=9");
        add("v is the GOAL behind others: THROUGH, WORTH being above LIFE", "<n3;e0 1 1;e1 2 9;l1;>=4 sends(2,0)=NONE sends(0,1)=1 sends(1,2)=NONE sends(1,2)=9");
        add("LIFE 99: a hundred HOPS", "<n3;e0 1 1;l99;>=3 sends(0,2)=NONE way(-1)=100 way(99)=1 way(100)=0 way(101)=NONE used(0)=100 count(7)=100");
        add("LIFE 60, at first", "<n3;e0 1 1;>=2 sends(0,2)=NONE way(-1)=61");
        add("LOST: GUESSES stay MENDED", "<n3;e0 1 4;l3;>=3 sends(0,2)=NONE guess(0,2,1)=256 mended(0,2,1)=1 node(0,0)=1");
    }

    private void rounds() {
        add("ROUNDS: the lower NODES first", TRIANGLE + "rounds(1)=6 count(7)=10 mended(0,1,1)=1 mended(1,0,0)=5 mended(2,0,0)=7");
        add("ROUNDS: then by GOALS, the lower ones first", TRIANGLE + "rounds(1)=6 mended(0,2,2)=4 mended(1,2,2)=6 mended(2,1,1)=10");
        add("ROUNDS: each NODE to each other one, none to itself", TRIANGLE + "rounds(1)=6 node(0,0)=4 node(1,0)=3 node(2,0)=3");
        add("ROUNDS: The WAY of the last LETTER", TRIANGLE + "rounds(1)=6 way(-1)=3 way(0)=2 way(1)=0 way(2)=2 way(3)=1");
        add("7: 1", "<e0 1 1;>=1 rounds(1)=2 count(7)=2");
        add("7: 4", "<e0 1 1;>=1 rounds(4)=8 count(7)=8");
        add("7: 0 is BAD", "<e0 1 1;>=1 rounds(0)=BAD count(7)=0 count(10)=0");
        add("7: 5 is BAD", "<e0 1 1;>=1 rounds(5)=BAD count(7)=0 count(10)=0");
        add("7: THROUGH alone are counted", "<n3;e0 1 1;>=2 rounds(1)=2");
        add("7: none is THROUGH", "<n6;>=1 rounds(4)=0 way(-1)=0 way(0)=5 count(7)=0 count(10)=1");
        add("7: of six NODES", "<n6;e5 0 1;e5 1 1;e5 2 1;e5 3 1;e5 4 1;>=6 rounds(1)=30 rounds(4)=120");
        add("7: so many ROUNDS are UNDONE at once", "<e0 1 1;>=1 rounds(4)=8 count(10)=1 undo()=0 count(7)=0 used(0)=0");
    }

    private void cuts() {
        String cut = TRIANGLE + "rounds(1)=6 cuts(0)=2 ";
        add("8: LINKS that are left", TRIANGLE + "cuts(2)=2 cuts(0)=1 cuts(0)=0 count(1)=0");
        add("8: BAD: the last one is gone", "<e0 1 1;>=1 cuts(0)=0 cuts(0)=BAD count(10)=1");
        add("8: BAD: no such LINK", TRIANGLE + "cuts(3)=BAD cuts(-1)=BAD count(1)=3 count(10)=0");
        add("CUT: the LINK of that number", "<n4;e0 1 7;e1 2 8;e2 3 9;>=4 cuts(1)=2 link(0,2)=7 link(1,2)=9 node(1,2)=1 node(2,2)=1");
        add("CUT: the lowest", "<n4;e0 1 7;e1 2 8;e2 3 9;>=4 cuts(0)=2 link(0,2)=8 node(0,2)=0");
        add("CUT: the highest", "<n6;e0 1 7;e4 5 9;>=3 cuts(1)=1 link(0,2)=7 node(4,2)=0 node(5,2)=0");
        add("CUT: they are no NEIGHBOURS now", cut + "guess(0,2,1)=STATE guess(1,2,0)=STATE mended(0,1,1)=STATE mended(1,0,0)=STATE");
        add("CUT: with GUESSES by it, of the lower NODE to the other one", cut + "lays(0,1,1)=3 mended(0,1,1)=NONE guess(0,1,1)=0");
        add("CUT: with GUESSES by it, of the lower NODE to others", cut + "lays(0,1,1)=3 mended(0,2,1)=NONE guess(0,2,1)=0");
        add("CUT: with GUESSES by it, of the other NODE to the lower one", cut + "lays(0,1,1)=3 mended(1,0,0)=NONE guess(1,0,0)=0");
        add("CUT: with GUESSES by it, of the other NODE to others", cut + "lays(0,1,1)=3 mended(1,2,0)=NONE guess(1,2,0)=0");
        add("CUT: GUESSES by others stay", cut + "mended(0,1,2)=9 mended(0,2,2)=4 mended(1,2,2)=6 mended(2,0,0)=7 mended(2,1,0)=8 mended(2,1,1)=10 guess(0,1,2)=64 guess(2,0,0)=64");
        add("CUT: of the highest NODES, to each GOAL", "<n6;e4 5 1;>=2 rounds(1)=2 mended(4,5,5)=245 mended(5,4,4)=490 cuts(0)=0 lays(5,4,1)=1 "
            + "mended(4,0,5)=NONE mended(4,5,5)=NONE mended(5,0,4)=NONE mended(5,3,4)=NONE mended(5,4,4)=NONE");
        add("CUT: TIME and COUNTS stay", cut + "count(7)=10 node(0,0)=4 node(1,0)=3");
        add("CUT: BEST is by another one", cut + "best(0,1)=2 best(1,0)=2 sends(0,1)=4 way(1)=2");
    }

    private void lays() {
        add("9: LINKS", "<n3;>=1 lays(0,1,1)=1 lays(2,1,9)=2 count(1)=2");
        add("9: the lower NODE is the first, whichever is told first", "<n3;>=1 lays(2,1,9)=1 link(0,0)=1 link(0,1)=2 link(0,2)=9");
        add("9: BAD, one and itself", "<n3;>=1 lays(0,0,1)=BAD lays(2,2,1)=BAD count(1)=0 count(10)=0");
        add("9: BAD: DELAY 0", "lays(0,1,0)=BAD count(1)=0");
        add("9: BAD: DELAY 10", "lays(0,1,10)=BAD count(1)=0");
        add("9: DELAY 1", "lays(0,1,1)=1 link(0,2)=1");
        add("9: DELAY 9", "lays(0,1,9)=1 link(0,2)=9");
        add("9: STATE: there is one", "<e0 1 2;>=1 lays(0,1,3)=STATE lays(1,0,3)=STATE link(0,2)=2 count(10)=0");
        add("9: BAD ahead of STATE", "<e0 1 2;>=1 lays(0,1,0)=BAD lays(1,0,10)=BAD");
        String ten = "<" + EdgesOfText.TEN + ">=11 ";
        add("9: FULL: 10", ten + "lays(4,5,1)=FULL count(1)=10 count(10)=0");
        add("9: the tenth", ten + "cuts(9)=9 lays(4,5,1)=10 lays(2,3,1)=FULL");
        add("9: STATE ahead of FULL", ten + "lays(0,1,1)=STATE lays(3,2,1)=STATE");
        add("9: BAD ahead of FULL", ten + "lays(4,5,0)=BAD lays(4,4,1)=BAD lays(4,6,1)=BAD lays(-1,5,1)=BAD");
        add("LAID: GUESSES by it were never MENDED", "<e0 1 2;f3;>=2 rounds(1)=2 cuts(0)=0 lays(0,1,5)=1 guess(0,1,1)=192 guess(1,0,0)=192 mended(0,1,1)=NONE mended(1,0,0)=NONE");
        add("LAID: used since it was LAID", "<e0 1 2;>=1 sends(0,1)=2 used(0)=1 cuts(0)=0 lays(0,1,2)=1 used(0)=0 sends(1,0)=2 used(0)=1");
        add("LAID: other LINKS keep how often they were used", "<n3;e0 2 2;>=2 sends(0,2)=2 lays(0,1,1)=2 used(0)=0 used(1)=1");
    }

    private void changes() {
        String net = "<n3;e0 1 2;e1 2 5;>=3 ";
        add("10: what it was", net + "changes(0,9)=2 changes(0,1)=9 link(0,2)=1 link(1,2)=5");
        add("10: in both orders", net + "changes(0,9)=2 least(0,1)=9 least(1,0)=9 sends(0,1)=9 sends(1,0)=9");
        add("10: STATE: it is that", net + "changes(0,2)=STATE changes(1,5)=STATE count(10)=0");
        add("10: BAD: DELAY 0", net + "changes(0,0)=BAD link(0,2)=2");
        add("10: BAD: DELAY 10", net + "changes(0,10)=BAD link(0,2)=2");
        add("10: DELAY 1", net + "changes(1,1)=5 link(1,2)=1");
        add("10: DELAY 9", net + "changes(1,9)=5 link(1,2)=9");
        add("10: BAD: no such LINK", net + "changes(2,3)=BAD changes(-1,3)=BAD count(10)=0");
        add("10: BAD: none at all", "changes(0,1)=BAD");
        add("CHANGED: GUESSES stay", net + "sends(0,1)=2 changes(0,9)=2 guess(0,1,1)=128 mended(0,1,1)=1");
        add("CHANGED: GUESSES are MENDED by the DELAY of now", net + "sends(0,1)=2 changes(0,9)=2 sends(0,1)=9 guess(0,1,1)=576");
        add("CHANGED: used since it was told", net + "sends(0,1)=2 changes(0,9)=2 used(0)=1");
        add("CHANGED: no more LINKS", net + "changes(0,9)=2 count(1)=2 node(1,2)=2");
    }

    private void undo() {
        StringBuilder nine = new StringBuilder("<e0 1 1;>=1 ");
        for (int i = 1; i <= 9; i++) {
            nine.append("changes(0,").append(1 + i % 9).append(")=").append(i).append(" count(10)=").append(Math.min(i, 8)).append(' ');
        }
        String eightBack = "undo()=7 undo()=6 undo()=5 undo()=4 undo()=3 undo()=2 undo()=1 undo()=0 ";
        add("11: STATE: none", "undo()=STATE <e0 1 1;>=1 undo()=STATE");
        add("11: how many more may be", "<e0 1 1;>=1 sends(0,1)=1 sends(0,1)=1 undo()=1 undo()=0 undo()=STATE count(10)=0");
        add("UNDONE: the latest", "<e0 1 1;>=1 changes(0,2)=1 changes(0,3)=2 undo()=1 link(0,2)=2 undo()=0 link(0,2)=1");
        add("UNDONE: 8 are known", nine + eightBack + "link(0,2)=2");
        add("UNDONE: older ones are lost", nine + eightBack + "undo()=STATE link(0,2)=2");
        add("UNDONE: eight of eight", "<e0 1 1;>=1 " + "sends(0,1)=1 ".repeat(8) + eightBack + "count(7)=0 undo()=STATE");
        add("UNDONE: all eight, then eight again", "<e0 1 1;>=1 " + ("sends(0,1)=1 ".repeat(8) + eightBack).repeat(2) + "undo()=STATE count(7)=0");
        add("UNDONE: some, others done behind them", nine + "undo()=7 undo()=6 undo()=5 link(0,2)=7 "
            + "changes(0,1)=7 changes(0,2)=1 changes(0,3)=2 changes(0,4)=3 changes(0,5)=4 changes(0,6)=5 count(10)=8 "
            + "undo()=7 link(0,2)=5 undo()=6 undo()=5 undo()=4 undo()=3 link(0,2)=1 undo()=2 link(0,2)=7 undo()=1 link(0,2)=6 undo()=0 link(0,2)=5 undo()=STATE");
        add("UNDONE: what was UNDONE is not known", "<e0 1 1;>=1 changes(0,2)=1 undo()=0 undo()=STATE link(0,2)=1");
        add("UNDONE: what is refused is not known", "<e0 1 1;>=1 sends(0,0)=BAD rounds(0)=BAD cuts(1)=BAD lays(0,0,1)=BAD lays(0,1,2)=STATE changes(0,1)=STATE changes(0,0)=BAD count(10)=0 undo()=STATE");
        add("UNDONE: lays() that is FULL is not known", "<" + EdgesOfText.TEN + ">=11 lays(4,5,1)=FULL count(10)=0 undo()=STATE");
        add("UNDONE: a LETTER that is LOST is known", "<n3;e0 1 9;l1;>=3 sends(0,2)=NONE count(10)=1 undo()=0 count(7)=0 mended(0,2,1)=NONE");
        add("UNDONE: not type(), clear(), sees(), forget(), keep()", "type(32)=1 clear()=1 sees(0,1,1)=1 forget()=1 keep(0)=0 undo()=STATE count(10)=0");
    }

    private void undoOfEach() {
        String net = "<n3;e0 1 2;e1 2 5;x2;>=4 sends(1,2)=9 ";
        add("UNDONE, sends(): TIME", net + "sends(0,1)=2 undo()=1 count(7)=3");
        add("UNDONE, sends(): COUNT", net + "node(0,0)=1 sends(0,1)=2 node(0,0)=2 undo()=1 node(0,0)=1");
        add("UNDONE, sends(): EXPLORED", net + "sends(0,1)=2 node(0,1)=1 undo()=1 node(0,1)=0");
        add("UNDONE, sends(): GUESS", net + "sends(0,1)=2 guess(0,1,1)=128 undo()=1 guess(0,1,1)=0 mended(0,1,1)=NONE");
        add("UNDONE, sends(): a GUESS that was MENDED ahead of it", "<e0 1 2;h1;>=2 sends(0,1)=2 guess(0,1,1)=64 sends(0,1)=2 guess(0,1,1)=96 undo()=1 guess(0,1,1)=64 mended(0,1,1)=1");
        add("UNDONE, sends(): used", net + "used(0)=2 sends(0,1)=2 used(0)=3 undo()=1 used(0)=2");
        add("UNDONE, sends(): The WAY is as it was", net + "sends(0,1)=2 way(-1)=1 undo()=1 way(-1)=3 way(0)=1 way(1)=0 way(2)=1 way(3)=2 way(4)=NONE");
        add("UNDONE, sends(): The WAY, of no LETTER", net + "undo()=0 way(-1)=NONE way(0)=NONE");
        add("UNDONE, sends(): The WAY of a hundred HOPS", "<n3;e0 1 1;l99;>=3 sends(0,2)=NONE sends(2,0)=NONE way(-1)=0 undo()=1 way(-1)=100 way(1)=1 way(99)=1 way(100)=0 way(101)=NONE");
        add("UNDONE, rounds()", net + "rounds(2)=12 undo()=1 count(7)=3 way(-1)=3 used(1)=1 mended(2,0,1)=NONE");
        add("UNDONE, cuts(): the LINK", net + "cuts(1)=1 undo()=1 count(1)=2 link(1,0)=1 link(1,1)=2 link(1,2)=5");
        add("UNDONE, cuts(): GUESSES by it", net + "cuts(1)=1 undo()=1 guess(1,2,2)=320 mended(1,2,2)=3");
        add("UNDONE, cuts(): used", net + "cuts(0)=1 undo()=1 used(0)=2 used(1)=1");
        add("UNDONE, cuts(): The WAY stays", net + "cuts(0)=1 way(-1)=3 undo()=1 way(-1)=3");
        add("UNDONE, lays()", net + "lays(0,2,4)=3 undo()=1 count(1)=2 least(0,2)=7 guess(0,2,2)=STATE");
        add("UNDONE, lays(): it can be LAID again", net + "lays(0,2,4)=3 undo()=1 lays(2,0,3)=3 link(1,2)=3");
        add("UNDONE, changes()", net + "changes(0,9)=2 undo()=1 link(0,2)=2 least(1,0)=2");
        add("UNDONE: THE TEXT stays", net + "type(32)=1 undo()=0 count(9)=1");
        add("UNDONE: SEEN stays", net + "sees(0,1,1)=1 undo()=0 count(8)=1");
        add("UNDONE: IMAGES stay", net + "keep(0)=2 undo()=0 count(7)=0 back(0)=2 count(7)=3");
    }

    private void askedOfGuesses() {
        String net = "<n4;e0 1 2;e1 2 3;>=3 ";
        for (String name : new String[] {"guess", "mended"}) {
            String number = name.equals("guess") ? "12: " : "13: ";
            String due = name.equals("guess") ? "0" : "NONE";
            add(number + "BAD, d is u", net + name + "(0,0,1)=BAD " + name + "(3,3,0)=BAD");
            add(number + "BAD ahead of STATE, d is u", net + name + "(0,0,2)=BAD " + name + "(0,0,0)=BAD");
            add(number + "BAD ahead of STATE, no such NODE", net + name + "(0,4,2)=BAD " + name + "(4,0,2)=BAD " + name + "(0,-1,3)=BAD");
            add(number + "STATE: v is no NEIGHBOUR", net + name + "(0,1,2)=STATE " + name + "(0,2,3)=STATE " + name + "(3,0,1)=STATE");
            add(number + "STATE: v is u", net + name + "(0,1,0)=STATE");
            add(number + "v may be d", net + name + "(0,1,1)=" + due);
            add(number + "d may be no one's NEIGHBOUR", net + name + "(0,3,1)=" + due);
        }
        add("13: NONE: never", net + "mended(0,2,1)=NONE sends(0,2)=9 mended(0,2,1)=3 mended(0,1,1)=NONE");
        add("13: last", net + "sends(0,1)=2 mended(0,1,1)=1 sends(0,1)=2 mended(0,1,1)=2");
        add("13: it may be too old", "<n4;e0 1 5;e2 3 1;a1;>=4 sends(0,1)=5 sends(2,3)=1 sends(2,3)=1 guess(0,1,1)=0 mended(0,1,1)=1");
    }

    private void askedOfNodesAndLinks() {
        String net = "<n3;e0 1 2;x2;>=3 sends(0,1)=2 sends(0,1)=2 sends(0,1)=2 ";
        add("15: 0 COUNT", net + "node(0,0)=3 node(1,0)=0 node(2,0)=0");
        add("15: 1 how often LETTERS EXPLORED there", net + "node(0,1)=1 node(1,1)=0");
        add("15: 2 how many NEIGHBOURS", net + "node(0,2)=1 node(1,2)=1 node(2,2)=0");
        add("15: BAD: no such NODE", net + "node(3,0)=BAD node(-1,0)=BAD");
        add("15: BAD: what", net + "node(0,3)=BAD node(0,-1)=BAD");
        add("16: each HOP", "<n3;e0 1 2;>=2 sends(0,2)=NONE used(0)=31");
        add("16: none", "<e0 1 2;>=1 used(0)=0");
        add("16: BAD", "used(0)=BAD <e0 1 2;>=1 used(1)=BAD used(-1)=BAD");
    }
}
