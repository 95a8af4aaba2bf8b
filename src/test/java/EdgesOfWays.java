import java.util.ArrayList;
import java.util.List;

/** Part 3 of the terms and promises 17 to 29: ways, which link, images, count. */
final class EdgesOfWays {
    private static final String LINE = "<n3;e0 1 1;e1 2 1;>=3 ";
    private static final String NET = "<n4;e0 1 1;e1 2 2;e0 2 9;e2 3 4;>=5 ";

    private final List<Edge> rows = new ArrayList<>();

    private EdgesOfWays() { }

    static List<Edge> rows() {
        EdgesOfWays edges = new EdgesOfWays();
        edges.ways();
        edges.paths();
        edges.astray();
        edges.least();
        edges.right();
        edges.hurt();
        edges.worst();
        edges.sees();
        edges.unseen();
        edges.images();
        edges.imagesKeep();
        edges.imagesKeepNothingElse();
        edges.counts();
        return edges.rows;
    }

    private void add(String words, String script) {
        rows.add(new Edge(words, script));
    }

    private void ways() {
        add("17: how many HOPS (k = -1)", LINE + "sends(2,0)=2 way(-1)=2");
        add("17: where it was SENT from being the first", LINE + "sends(2,0)=2 way(0)=2 way(1)=1 way(2)=0");
        add("17: NONE: it has not so many", LINE + "sends(2,0)=2 way(3)=NONE way(2147483647)=NONE");
        add("17: NONE: there was no LETTER", LINE + "way(-1)=NONE way(0)=NONE way(1)=NONE");
        add("17: BAD: k below -1", LINE + "sends(2,0)=2 way(-2)=BAD way(-2147483648)=BAD");
        add("17: BAD: k below -1, with no LETTER", LINE + "way(-2)=BAD way(-9)=BAD");
        add("17: of a LETTER that is LOST", "<n3;e0 1 5;l4;>=3 sends(0,2)=NONE way(-1)=1 way(0)=0 way(1)=1 way(2)=NONE");
        add("17: a shorter one behind a longer one", LINE + "sends(2,0)=2 sends(0,1)=1 way(-1)=1 way(1)=1 way(2)=NONE");
    }

    private void paths() {
        add("PATH: it ends at d", LINE + "path(2,0,-1)=3 path(2,0,0)=2 path(2,0,1)=1 path(2,0,2)=0 path(2,0,3)=NONE");
        add("PATH: it ends at d, though d has NEIGHBOURS", LINE + "path(0,1,-1)=2 path(0,1,1)=1 path(0,1,2)=NONE");
        add("PATH: ahead of the first NODE that it has already", LINE + "path(0,2,-1)=2 path(0,2,0)=0 path(0,2,1)=1 path(0,2,2)=NONE");
        add("PATH: a ring that does not have u", "<n4;e3 1 1;e1 0 1;>=3 path(3,2,-1)=3 path(3,2,0)=3 path(3,2,1)=1 path(3,2,2)=0 path(3,2,3)=NONE");
        add("PATH: where there is no NEIGHBOUR", "<n3;e0 1 1;>=2 path(2,0,-1)=1 path(2,0,0)=2 path(2,0,1)=NONE");
        add("PATH: all six NODES", "<n6;e5 4 1;e4 3 1;e3 2 1;e2 1 1;e1 0 1;>=6 path(5,0,-1)=6 path(5,0,0)=5 path(5,0,5)=0 path(5,0,6)=NONE");
        add("PATH: by what is BEST now", "<n3;e0 1 1;e0 2 1;e1 2 1;>=4 path(0,1,-1)=2 sends(0,1)=1 path(0,1,1)=2 path(0,1,-1)=2");
        add("18: NONE far behind", LINE + "path(2,0,2147483647)=NONE path(2,0,6)=NONE");
        add("18: BAD: k below -1", LINE + "path(2,0,-2)=BAD path(2,0,-2147483648)=BAD");
        add("18: BAD: d is u", LINE + "path(0,0,-1)=BAD path(2,2,0)=BAD");
        add("18: BAD: no such NODE", LINE + "path(3,0,0)=BAD path(0,3,0)=BAD path(-1,0,0)=BAD path(0,-1,0)=BAD");
        add("3: nothing is changed by PATH", LINE + "path(0,2,-1)=2 count(7)=0 node(0,0)=0 way(-1)=NONE count(10)=0");
    }

    private void astray() {
        add("19: none", LINE + "astray(0)=0");
        add("19: some", LINE + "astray(2)=2");
        add("19: d itself is not", "<e0 1 1;>=1 astray(0)=0 astray(1)=0");
        add("19: those without a NEIGHBOUR are", "<n4;e0 1 1;>=2 astray(0)=2 astray(1)=2");
        add("19: all others, d being without a NEIGHBOUR", "<n4;e0 1 1;>=2 astray(2)=3");
        add("19: all five others", "<n6;>=1 astray(0)=5 astray(5)=5");
        add("19: a way that is not the least is no way astray", "<n3;e0 1 9;e0 2 1;e1 2 9;>=4 path(2,1,1)=0 path(2,1,-1)=3 astray(1)=0");
        add("19: BAD", LINE + "astray(3)=BAD astray(-1)=BAD");
        add("19: BAD for the NODES that are told", "astray(1)=1 astray(2)=BAD");
    }

    private void least() {
        add("LEAST: the least sum", "<n4;e0 1 9;e0 2 1;e2 3 2;e3 1 3;>=5 least(0,1)=6 least(1,0)=6");
        add("LEAST: one LINK may be least", "<n3;e0 1 3;e1 2 3;e0 2 6;>=4 least(0,2)=6 changes(1,5)=6 least(0,2)=5 changes(1,7)=5 least(0,2)=6");
        add("LEAST: the longest", "<n6;e5 4 9;e4 3 9;e3 2 9;e2 1 9;e1 0 9;>=6 least(0,5)=45 least(5,0)=45");
        add("LEAST: by lower NODES from a higher one", "<n6;e5 0 1;e0 4 1;e4 1 1;e1 3 1;e3 2 1;>=6 least(5,2)=5 least(2,5)=5");
        add("20: NONE", "<n4;e0 1 1;e2 3 1;>=3 least(0,2)=NONE least(3,1)=NONE least(0,1)=1 least(2,3)=1");
        add("20: d is u: 0", "<n3;e0 1 1;>=2 least(0,0)=0 least(1,1)=0 least(2,2)=0");
        add("20: BAD", "<n3;e0 1 1;>=2 least(3,0)=BAD least(0,3)=BAD least(-1,0)=BAD least(0,-1)=BAD");
        add("20: BAD: d is u, but no NODE", "<n3;e0 1 1;>=2 least(3,3)=BAD least(-1,-1)=BAD");
        add("20: GUESSES do not matter", LINE + "rounds(1)=6 least(0,2)=2");
    }

    private void right() {
        add("21: no LINKS", "right()=0 <n6;>=1 right()=0");
        add("21: all of two", "<e0 1 9;>=1 right()=2");
        add("RIGHT: whose PATH ends at d", LINE + "right()=4 sends(0,2)=4 right()=6");
        add("RIGHT: with DELAYS that are LEAST together", "<n3;e0 1 9;e0 2 1;e1 2 9;>=4 right()=3");
        add("RIGHT: of several that are LEAST, any", "<n4;e0 1 2;e0 2 1;e1 3 1;e2 3 2;>=5 rounds(4)=48 least(0,3)=3 right()=12");
        add("RIGHT: each pair in both orders", "<n3;e0 2 1;e1 2 1;>=3 best(2,1)=0 right()=4");
        add("RIGHT: pairs without a way are not", "<n4;e0 1 1;e2 3 1;>=3 right()=4");
    }

    private void hurt() {
        add("HURT: LEAST of all pairs, each in both orders", "<n3;e0 1 1;e0 2 5;e1 2 1;>=4 hurt(1)=8");
        add("HURT: were it not there", "<n3;e0 1 1;e0 2 5;e1 2 1;>=4 hurt(0)=24 hurt(2)=24");
        add("HURT: 100 where there is none", "<e0 1 9;>=1 hurt(0)=200");
        add("HURT: 100 where there is none, for each", "<n6;e0 1 9;>=2 hurt(0)=3000");
        add("HURT: 100 where there was none, too", "<n4;e0 1 1;e2 3 1;>=3 hurt(0)=1002 hurt(1)=1002");
        add("HURT: nothing is changed", NET + "hurt(3)=612 count(1)=4 link(3,2)=4 count(10)=0 least(0,3)=7");
        add("22: BAD", NET + "hurt(4)=BAD hurt(-1)=BAD");
        add("22: BAD: no LINKS", "hurt(0)=BAD");
        add("HURT: of ten", "<" + EdgesOfText.TEN + ">=11 hurt(9)=42 hurt(0)=42");
    }

    private void worst() {
        add("23: NONE", "worst()=NONE <n6;>=1 worst()=NONE");
        add("23: of one", "<e0 1 1;>=1 worst()=0");
        add("WORST: most", NET + "worst()=3");
        add("WORST: in the middle", "<n4;e0 1 1;e1 2 1;e2 3 1;>=4 worst()=1");
        add("WORST: of several the lowest", "<n4;e0 1 1;e2 3 1;>=3 worst()=0");
        add("WORST: of several the lowest, not the first", "<n5;e0 1 1;e0 2 1;e1 2 1;e1 3 1;e1 4 1;>=6 hurt(3)=816 hurt(4)=816 worst()=3");
        add("WORST: by the LINKS of now", NET + "cuts(3)=3 worst()=0 undo()=0 worst()=3");
    }

    private void sees() {
        String six = "sees(0,1,1)=1 sees(0,1,1)=2 sees(0,1,1)=3 sees(0,1,1)=4 sees(0,1,1)=5 sees(0,1,1)=6 ";
        add("24: how much there is", NET + "sees(0,1,1)=1 sees(2,3,4)=2 count(8)=2");
        add("24: FULL: 6", NET + six + "sees(0,1,1)=FULL count(8)=6");
        add("24: BAD ahead of FULL", NET + six + "sees(0,0,1)=BAD sees(0,1,100)=BAD sees(4,1,1)=BAD count(8)=6");
        add("24: there is room again behind forget()", NET + six + "forget()=6 sees(0,1,1)=1");
        add("24: w 0", NET + "sees(0,1,0)=1");
        add("24: w 99", NET + "sees(0,1,99)=1 unseen()=0");
        add("24: BAD: w -1", NET + "sees(0,1,-1)=BAD count(8)=0");
        add("24: BAD: w 100", NET + "sees(0,1,100)=BAD count(8)=0");
        add("24: BAD: d is u", NET + "sees(0,0,0)=BAD sees(3,3,1)=BAD count(8)=0");
        add("24: BAD: no such NODE", NET + "sees(4,0,1)=BAD sees(0,4,1)=BAD sees(-1,0,1)=BAD sees(0,-1,1)=BAD count(8)=0");
        add("24: the same again is SEEN again", NET + "sees(0,1,1)=1 sees(0,1,1)=2");
        add("24: what can't be is SEEN, too", NET + "sees(0,1,50)=1 unseen()=0");
        add("24: it can't be UNDONE", NET + "sees(0,1,1)=1 count(10)=0 undo()=STATE count(8)=1");
        add("25: of nothing", NET + "forget()=0 count(8)=0");
        add("25: how much was", NET + "sees(0,1,1)=1 sees(0,2,9)=2 forget()=2 forget()=0 count(8)=0");
        add("25: Nothing is SEEN", NET + "sees(0,1,50)=1 unseen()=0 forget()=1 unseen()=15");
    }

    private void unseen() {
        add("UNSEEN: nothing SEEN", NET + "unseen()=15");
        add("UNSEEN: no LINKS", "unseen()=0 sees(0,1,0)=1 unseen()=0");
        add("UNSEEN: of ten", "<" + EdgesOfText.TEN + ">=11 unseen()=1023 sees(2,3,2)=1 unseen()=512");
        add("UNSEEN: LEAST of u, d would be w", NET + "sees(0,2,9)=1 unseen()=5");
        add("UNSEEN: in the other order", NET + "sees(2,0,9)=1 unseen()=5");
        add("UNSEEN: all that was SEEN", NET + "sees(2,0,9)=1 sees(0,1,1)=2 unseen()=4 sees(0,3,14)=3 unseen()=0");
        add("UNSEEN: all of six", NET + "sees(0,1,1)=1 sees(0,1,1)=2 sees(0,1,1)=3 sees(0,1,1)=4 sees(0,1,1)=5 unseen()=14 sees(0,2,9)=6 unseen()=4");
        add("UNSEEN: w 0: none", NET + "sees(3,1,0)=1 unseen()=8");
        add("UNSEEN: w 0: there is a way", NET + "sees(0,1,0)=1 unseen()=0");
        add("UNSEEN: w 0: there was none", "<n3;e0 1 1;>=2 sees(0,2,0)=1 unseen()=1");
        add("UNSEEN: one LINK being CUT, not none", "<n3;e0 1 1;e1 2 1;>=3 sees(0,2,2)=1 unseen()=0");
        add("UNSEEN: by the LINKS of now", NET + "sees(2,0,9)=1 unseen()=5 cuts(1)=3 unseen()=0 undo()=0 changes(1,8)=9 unseen()=0 count(8)=1");
    }

    private void images() {
        add("27: LINKS", NET + "keep(0)=4 cuts(0)=3 keep(1)=3");
        add("27: no LINKS", "keep(0)=0 back(0)=0");
        add("27: BAD", NET + "keep(2)=BAD keep(-1)=BAD back(0)=STATE back(1)=STATE");
        add("28: LINKS", NET + "keep(0)=4 cuts(0)=3 back(0)=4 count(1)=4");
        add("28: BAD", NET + "keep(0)=4 keep(1)=4 back(2)=BAD back(-1)=BAD");
        add("28: STATE: none was kept: 0", NET + "keep(1)=4 back(0)=STATE back(1)=4");
        add("28: STATE: none was kept: 1", NET + "keep(0)=4 back(1)=STATE back(0)=4");
        add("28: STATE: nothing changes", NET + "changes(0,5)=1 back(0)=STATE count(10)=1 undo()=0 link(0,2)=1");
        add("IMAGES 0, 1", NET + "keep(0)=4 cuts(0)=3 keep(1)=3 cuts(0)=2 back(0)=4 back(1)=3 back(0)=4");
        add("28: an IMAGE stays", NET + "keep(0)=4 cuts(0)=3 back(0)=4 cuts(0)=3 back(0)=4 link(0,2)=1");
        add("27: an IMAGE is kept again", NET + "keep(0)=4 cuts(0)=3 keep(0)=3 cuts(0)=2 back(0)=3");
        add("27: what can be UNDONE stays", NET + "cuts(0)=3 keep(0)=3 count(10)=1 undo()=0 count(1)=4");
        add("nothing can be UNDONE behind back()", NET + "keep(0)=4 cuts(0)=3 back(0)=4 count(10)=0 undo()=STATE count(1)=4");
        add("nothing can be UNDONE behind back(): of eight", NET + "keep(0)=4 " + "sends(0,1) ".repeat(9) + "count(10)=8 back(0)=4 undo()=STATE count(7)=0");
        add("what is done behind back() can be UNDONE", NET + "cuts(0)=3 keep(0)=3 back(0)=3 cuts(0)=2 undo()=0 count(1)=3 undo()=STATE");
    }

    private void imagesKeep() {
        String kept = "<n3;e0 1 2;e1 2 5;x2;>=4 sends(1,2)=9 keep(0)=2 ";
        String done = "rounds(2)=12 changes(0,9)=2 cuts(1)=1 lays(0,2,1)=2 sends(0,2) back(0)=2 ";
        add("IMAGES keep LINKS", kept + done + "link(0,0)=0 link(0,1)=1 link(1,0)=1 link(1,1)=2");
        add("IMAGES keep DELAYS", kept + done + "link(0,2)=2 link(1,2)=5");
        add("IMAGES keep GUESSES", kept + done + "guess(1,2,0)=128 guess(1,2,2)=320 guess(0,2,1)=128");
        add("IMAGES keep when they were MENDED", kept + done + "mended(1,2,0)=1 mended(0,2,1)=2 mended(1,2,2)=3 mended(0,1,1)=NONE");
        add("IMAGES keep TIME", kept + done + "count(7)=3");
        add("IMAGES keep COUNTS", kept + done + "node(0,0)=1 node(1,0)=2 node(2,0)=0");
        add("IMAGES keep how often LETTERS EXPLORED", kept + done + "node(1,1)=1 node(0,1)=0");
        add("IMAGES keep how often LINKS were used", kept + done + "used(0)=2 used(1)=1");
        add("IMAGES keep The WAY", kept + done + "way(-1)=3 way(0)=1 way(1)=0 way(2)=1 way(3)=2 way(4)=NONE");
        add("IMAGES keep The WAY: of no LETTER", "<e0 1 2;>=1 keep(1)=1 sends(0,1)=2 back(1)=1 way(-1)=NONE");
    }

    private void imagesKeepNothingElse() {
        add("IMAGES keep nothing else: SEEN", NET + "sees(0,1,1)=1 keep(0)=4 sees(0,1,1)=2 back(0)=4 count(8)=2");
        add("IMAGES keep nothing else: forgotten", NET + "sees(0,1,50)=1 keep(0)=4 forget()=1 back(0)=4 count(8)=0 unseen()=15");
        add("IMAGES keep nothing else: THE TEXT", NET + "type(110)=1 keep(0)=4 type(51)=2 back(0)=4 count(9)=2 type(59)=3 net()=1 count(0)=3");
        add("IMAGES keep nothing else: the other IMAGE", NET + "keep(0)=4 cuts(0)=3 keep(1)=3 back(0)=4 back(1)=3");
    }

    private void counts() {
        String net = "<n3;e0 1 2;x4;h2;a50;l70;f9;>=7 sends(0,1)=2 changes(0,3)=2 sees(0,1,1)=1 type(32)=1 type(32)=2 type(32)=3 lays(1,2,1)=2 ";
        int[] due = {3, 2, 4, 2, 50, 70, 9, 1, 1, 3, 3};
        String[] names = {"NODES", "LINKS", "EVERY", "HALVES", "AGE", "LIFE", "FIRST", "TIME", "SEEN", "letters of THE TEXT", "how many may be UNDONE"};
        for (int what = 0; what < due.length; what++) {
            add("29: " + what + " " + names[what], net + "count(" + what + ")=" + due[what]);
        }
        add("29: BAD", net + "count(-1)=BAD count(11)=BAD");
    }
}
