import java.util.ArrayList;
import java.util.List;

/** Part 1 of the terms and promises 1 to 5: what is told. */
final class EdgesOfText {
    static final String TEN = "n6;e0 1 1;e0 2 1;e0 3 1;e0 4 1;e0 5 1;e1 2 1;e1 3 1;e1 4 1;e1 5 1;e2 3 1;";

    private final List<Edge> rows = new ArrayList<>();

    private EdgesOfText() { }

    static List<Edge> rows() {
        EdgesOfText edges = new EdgesOfText();
        edges.newObject();
        edges.bounds("NODES (2 .. 6; 2 at first)", 'n', 0, 2, 6, 2);
        edges.bounds("EVERY (0 .. 9; 0 at first)", 'x', 2, 0, 9, 0);
        edges.bounds("HALVES (0 .. 3; 0 at first)", 'h', 3, 0, 3, 0);
        edges.bounds("AGE (1 .. 99; 99 at first)", 'a', 4, 1, 99, 99);
        edges.bounds("LIFE (1 .. 99; 60 at first)", 'l', 5, 1, 99, 60);
        edges.bounds("FIRST (0 .. 99; 0 at first)", 'f', 6, 0, 99, 0);
        edges.nodesAndLinks();
        edges.lengthOfTheText();
        edges.tokens();
        edges.faults();
        edges.faultsOfLinks();
        edges.faultsOfNumbers();
        edges.endsTooEarly();
        edges.toldAgain();
        edges.readAnew();
        edges.links();
        return edges.rows;
    }

    private void add(String words, String script) {
        rows.add(new Edge(words, script));
    }

    private void newObject() {
        add("1: two NODES", "count(0)=2 node(0,0)=0 node(1,0)=0 node(2,0)=BAD node(-1,0)=BAD");
        add("1: no LINKS", "count(1)=0 link(0,0)=BAD node(0,2)=0 node(1,2)=0 best(0,1)=NONE least(0,1)=NONE");
        add("1: as told: EVERY", "lays(0,1,1)=1 sends(0,1)=1 node(0,1)=0");
        add("1: as told: LIFE 60", "count(5)=60");
        add("1: as told: AGE 99", "count(4)=99");
        add("1: as told: FIRST", "lays(0,1,1)=1 guess(0,1,1)=0");
        add("1: GUESSES were never MENDED", "lays(0,1,1)=1 mended(0,1,1)=NONE mended(1,0,0)=NONE");
        add("1: no LETTER went by a LINK", "lays(0,1,1)=1 used(0)=0");
        add("1: TIME is 0 at first", "count(7)=0");
        add("1: nothing SEEN", "count(8)=0 forget()=0");
        add("1: THE TEXT is empty", "count(9)=0 clear()=0");
        add("1: nothing to be UNDONE", "count(10)=0 undo()=STATE");
        add("1: no LETTER", "way(-1)=NONE way(0)=NONE");
        add("1: no IMAGES", "back(0)=STATE back(1)=STATE");
    }

    private void bounds(String words, char letter, int what, int low, int high, int first) {
        String ask = " count(" + what + ")=";
        add(words + ": at first", ask + first);
        add(words + ": not told", "<" + (letter == 'x' ? "h" : "x") + "1;>=1" + ask + first);
        add(words + ": the least", "<" + letter + low + ";>=1" + ask + low);
        add(words + ": the most", "<" + letter + high + ";>=1" + ask + high);
        add(words + ": one above", "<" + letter + (high + 1) + ";>=-11" + ask + first);
        if (low > 0) {
            add(words + ": one below", "<" + letter + (low - 1) + ";>=-11" + ask + first);
        }
        add(words + ": below 0", "<" + letter + "-1;>=-11" + ask + first);
    }

    private void nodesAndLinks() {
        add("NODES 0 .. as many as are told less 1", "<n5;>=1 node(4,0)=0 node(5,0)=BAD best(4,0)=NONE best(5,0)=BAD best(0,5)=BAD");
        add("LINKS between two unlike NODES: told", "<e1 1 1;>=-13 count(1)=0");
        add("LINKS between two unlike NODES: LAID", "lays(1,1,1)=BAD count(1)=0");
        add("LINKS, one at most: told", "<e0 1 1;e0 1 2;>=-20 count(1)=0");
        add("LINKS, one at most: told the other way round", "<e0 1 1;e1 0 2;>=-20 count(1)=0");
        add("LINKS, one at most: LAID", "<e0 1 1;>=1 lays(0,1,2)=STATE lays(1,0,2)=STATE count(1)=1 link(0,2)=1");
        add("DELAY 1: told", "<e0 1 1;>=1 link(0,2)=1");
        add("DELAY 9: told", "<e0 1 9;>=1 link(0,2)=9");
        add("DELAY 0: told", "<e0 1 0;>=-15 count(1)=0");
        add("DELAY 10: told", "<e0 1 10;>=-15 count(1)=0");
        add("LINKS, 10 at most: ten", "<" + TEN + ">=11 count(1)=10 link(9,0)=2 link(9,1)=3 link(10,0)=BAD");
        add("LINKS, 10 at most: an eleventh told", "<" + TEN + "e2 4 1;>=-83 count(1)=0");
        add("LINKS, 10 at most: an eleventh LAID", "<" + TEN + ">=11 lays(2,4,1)=FULL count(1)=10");
        add("numbered by their lower NODES", "<n4;e2 3 7;e1 2 8;e0 3 9;>=4 link(0,0)=0 link(1,0)=1 link(2,0)=2 link(0,2)=9 link(1,2)=8 link(2,2)=7");
        add("numbered by their lower NODES, then the other ones", "<n4;e0 3 7;e0 2 8;e0 1 9;>=4 link(0,1)=1 link(1,1)=2 link(2,1)=3 link(2,2)=7");
        add("numbered by the lower NODE, whichever is told first", "<n4;e3 0 7;e2 1 8;>=3 link(0,0)=0 link(0,1)=3 link(1,0)=1 link(1,1)=2");
        add("numbered anew behind CUT", "<n3;e0 1 7;e0 2 8;e1 2 9;>=4 cuts(0)=2 link(0,2)=8 link(1,2)=9 link(2,2)=BAD");
        add("numbered anew behind LAID", "<n3;e0 2 8;e1 2 9;>=3 lays(1,0,7)=3 link(0,2)=7 link(1,2)=8 link(2,2)=9");
        add("NEIGHBOURS have a LINK", "<n4;e0 1 1;e3 0 1;>=3 node(0,2)=2 node(1,2)=1 node(2,2)=0 node(3,2)=1");
        add("NEIGHBOURS, five at most", "<n6;e3 0 1;e3 1 1;e3 2 1;e3 4 1;e3 5 1;>=6 node(3,2)=5 node(5,2)=1");
    }

    private void lengthOfTheText() {
        StringBuilder full = new StringBuilder();
        for (int i = 1; i <= 120; i++) {
            full.append("type(32)=").append(i).append(' ');
        }
        add("2: how many it has", "type(110)=1 type(50)=2 type(59)=3 count(9)=3");
        add("2: FULL: 120", full + "type(32)=FULL count(9)=120");
        add("2: BAD ahead of FULL", full + "type(256)=BAD type(-1)=BAD type(255)=FULL type(0)=FULL");
        add("2: letter 0", "type(0)=1 count(9)=1 net()=-10");
        add("2: letter 255", "type(255)=1 count(9)=1 net()=-10");
        add("2: letter -1", "type(-1)=BAD count(9)=0");
        add("2: letter 256", "type(256)=BAD count(9)=0");
        add("2: letters by 256 too much are no letters", "type(366)=BAD type(306)=BAD count(9)=0");
        add("2: the 121st letter does not come to THE TEXT", "<" + "x1;".repeat(40) + ";>=40");
        add("2: a text of 120 letters is read to its last one", "<" + "x1;".repeat(39) + "x1%>=-129");
        add("2: there is room again behind net()", "<" + "x1;".repeat(40) + ">=40 type(32)=1");
        add("3: of nothing", "clear()=0 count(9)=0");
        add("3: how many letters it had", "type(110)=1 type(50)=2 clear()=2 clear()=0 count(9)=0");
        add("3: of 120", full + "clear()=120 type(32)=1");
        add("3: what was cleared is not read", "type(37)=1 clear()=1 <n3;>=1 count(0)=3");
        add("4: THE TEXT is empty then", "<n3;>=1 count(9)=0 clear()=0");
        add("4: with a FAULT, THE TEXT stays", "<n3;;>=-13 count(9)=4 net()=-13 clear()=4");
        add("4: with a FAULT, more may come to THE TEXT", "<n3>=-12 type(59)=3 net()=1 count(0)=3");
        add("4: how many ITEMS: none", "net()=0 <   >=0");
        add("4: how many ITEMS: n and e, too", "<n3;e0 1 1;e1 2 1;x1;h1;a1;l1;f1;>=8");
        add("4: how many ITEMS: those told again, too", "<x1;x2;x1;>=3");
    }

    private void tokens() {
        add("blanks between TOKENS", "< n  3 ; e  2  0  9 ;  >=2 count(0)=3 link(0,2)=9");
        add("blanks need not be where TOKENS are told apart without", "<n3;e2 0 9;>=2 link(0,2)=9");
        add("blanks (32), no other letter: 9", "<x1;" + (char) 9 + ">=-13");
        add("blanks (32), no other letter: 10", "<x" + (char) 10 + "1;>=-11");
        add("blanks (32), no other letter: 160", "<" + (char) 160 + "x1;>=-10");
        add("each ended by ;", "<x1 h1;>=-13");
        add("each ended by ; : the last one, too", "<x1;h1>=-15");
        add("an ITEM has a letter: none", "<;>=-10");
        add("an ITEM has a letter: none behind another", "<x1;;>=-13");
        add("an ITEM has a letter: a NUMBER ahead", "<1;>=-10");
        add("TOKENS are the letters n, e, x, h, a, l, f: a capital", "<X1;>=-10");
        add("TOKENS are the letters n, e, x, h, a, l, f: another", "<g1;>=-10");
        add("TOKENS are the letters n, e, x, h, a, l, f: one behind another", "<xh1;>=-11");
        add("NUMBERS: the letter ahead of 0", "<x/;>=-11");
        add("NUMBERS: the letter behind 9", "<x:;>=-11");
        add("NUMBERS: 0 and 9", "<f90;>=1 count(6)=90 <f9;>=1 count(6)=9");
        add("a blank parts two NUMBERS", "<f1 2;>=-13");
    }

    private void faults() {
        add("FAULT: the place of the first letter of the TOKEN", "<x1;  f100;>=-16");
        add("FAULT: of the first TOKEN that can't stand there", "<x1;a0;h4;>=-14");
        add("FAULT: of the first, one of another letter behind it", "<a0;%>=-11");
        add("FAULT: of the first, one of another letter ahead of it", "<%a0;>=-10");
        add("FAULT: of the first, a NUMBER above 99 behind it", "<a0;f100;>=-11");
        add("FAULT: n behind another ITEM", "<x1;n3;>=-13 count(0)=2");
        add("FAULT: n behind a LINK", "<e0 1 1;n3;>=-17");
        add("FAULT: n behind n", "<n3;n3;>=-13");
        add("n, the first of all, if it is told: told", "<n3;x1;>=2 count(0)=3");
        add("n, the first of all, if it is told: not told", "<e0 1 1;x1;>=2 count(0)=2");
        add("FAULT: a letter where a NUMBER is due", "<xx;>=-11");
        add("FAULT: ; where a NUMBER is due", "<x;>=-11");
        add("FAULT: a NUMBER where ; is due", "<x1 1;>=-13");
        add("FAULT: a letter where ; is due", "<x1x;>=-12");
        add("FAULT: ; where V is due", "<e0;>=-12");
        add("FAULT: ; where D is due", "<e0 1;>=-14");
        add("FAULT: a NUMBER behind D", "<e0 1 1 1;>=-17");
        add("FAULT: any other letter, where a NUMBER is due", "<x%;>=-11");
        add("FAULT: any other letter, where ; is due", "<x1%;>=-12");
        add("FAULT: any other letter, where an ITEM is due", "<x1;%>=-13");
        add("FAULT: any other letter: 0", "<x1;" + (char) 0 + ">=-13");
        add("FAULT: any other letter: 0, where a NUMBER is due", "<x" + (char) 0 + ";>=-11");
        add("FAULT: any other letter: 0, where ; is due", "<x1" + (char) 0 + ">=-12");
        add("FAULT: any other letter: 255", "<x1;" + (char) 255 + ">=-13");
        add("FAULT: any other letter: 178, a raised 2", "<x" + (char) 178 + ";>=-11");
    }

    private void faultsOfLinks() {
        add("FAULT: an eleventh e, at its place", "<" + TEN + "  e>=-85");
        add("FAULT: an eleventh e, ahead of what is wrong in it", "<" + TEN + "e9 9 0;>=-83");
        add("the tenth e may stand", "<" + TEN + "x1;>=12 count(1)=10 count(2)=1");
        add("FAULT: V that is U", "<e0 0 1;>=-13");
        add("FAULT: V that is U, not 0", "<n6;e5  5 1;>=-17");
        add("FAULT: V has a LINK with U already", "<n3;e1 2 1;e1 2 1;>=-23");
        add("FAULT: V has a LINK with U already, the other way round", "<n3;e1 2 1;e2 1 1;>=-23");
        add("U may have a LINK with another one already", "<n3;e1 2 1;e1 0 1;>=3 count(1)=2");
        add("FAULT: U beyond the NODES", "<n3;e3 0 1;>=-14");
        add("FAULT: V beyond the NODES", "<n3;e0 3 1;>=-16");
        add("FAULT: U beyond the NODES that are at first", "<e2 0 1;>=-11");
        add("FAULT: V beyond the NODES that are at first", "<e0 2 1;>=-13");
        add("U and V: the highest NODES", "<n6;e5 4 1;>=2 link(0,0)=4 link(0,1)=5");
        add("a text that was refused leaves no LINK behind it", "<n3;e0 1 1;%>=-20 clear()=11 <n3;e0 1 2;>=2 link(0,2)=2");
        add("a text that was refused leaves no NODES behind it", "<n6;%>=-13 clear()=4 <e2 0 1;>=-11");
    }

    private void faultsOfNumbers() {
        add("a NUMBER above 99", "<f100;>=-11");
        add("a NUMBER of 99", "<f 99 ;>=1 count(6)=99");
        add("a NUMBER far above 99", "<f4294967297;>=-11");
        add("a NUMBER far above 99, by 2 to the power of 64", "<f18446744073709551617;>=-11");
        add("a NUMBER of 119 digits", "<f" + "1".repeat(119) + ">=-11");
        add("a NUMBER with a 0 ahead of others", "<f01;>=-11");
        add("a NUMBER with a 0 ahead of a 0", "<f00;>=-11");
        add("a NUMBER of one 0", "<f5;f0;>=2 count(6)=0");
        add("a NUMBER with a 0 behind", "<f10;>=1 count(6)=10");
        add("a NUMBER with a 0 ahead of others, as U", "<e00 1 1;>=-11");
        add("a NUMBER with a 0 ahead of others, as V", "<e0 01 1;>=-13");
        add("a NUMBER with a 0 ahead of others, as D", "<e0 1 01;>=-15");
        add("a NUMBER with a 0 ahead of others, where none is due", "<00;>=-10");
        add("a NUMBER above 99 where ; is due", "<x1 100;>=-13");
    }

    private void endsTooEarly() {
        String text = "n3;e0 1 2;x 7 ;";
        String whole = ",0,3,10,15,";
        for (int length = 1; length < text.length(); length++) {
            if (!whole.contains("," + length + ",")) {
                add("the text's length, if it ends too early: " + length, "<" + text.substring(0, length) + ">=" + (-10 - length));
            }
        }
        add("it does not end too early behind ;", "<n3;>=1 <n3;e0 1 2;>=2 <" + text + ">=3");
        add("the text's length, blanks at its end, too", "<x1   >=-15");
        add("the text's length, 120", "<" + "x1;".repeat(39) + " x1>=-130");
    }

    private void toldAgain() {
        add("x told again is as told last", "<x1;x2;>=2 count(2)=2");
        add("h told again is as told last", "<h1;h2;>=2 count(3)=2");
        add("a told again is as told last", "<a1;a2;>=2 count(4)=2");
        add("l told again is as told last", "<l1;l2;>=2 count(5)=2");
        add("f told again is as told last", "<f1;f2;>=2 count(6)=2");
    }

    private void readAnew() {
        String all = "<n3;e0 1 2;e1 2 3;x2;h1;a5;l50;f7;>=8 rounds(2)=12 sees(0,1,2)=1 keep(0)=2 keep(1)=2 ";
        add("Read anew: as told, else as at first: NODES", all + "<x1;>=1 count(0)=2 node(2,0)=BAD");
        add("Read anew: as told, else as at first: LINKS", all + "<n3;>=1 count(1)=0 node(1,2)=0");
        add("Read anew: as told, else as at first: EVERY", all + "<n3;>=1 count(2)=0");
        add("Read anew: as told, else as at first: HALVES", all + "<n3;>=1 count(3)=0");
        add("Read anew: as told, else as at first: AGE", all + "<n3;>=1 count(4)=99");
        add("Read anew: as told, else as at first: LIFE", all + "<n3;>=1 count(5)=60");
        add("Read anew: as told, else as at first: FIRST", all + "<n3;e0 1 1;>=2 count(6)=0 guess(0,1,1)=0");
        add("Read anew: no LETTER was SENT", all + "<n3;e0 1 2;>=2 way(-1)=NONE way(0)=NONE");
        add("Read anew: no LETTER was SENT: GUESSES were never MENDED", all + "<n3;e0 1 2;>=2 mended(0,1,1)=NONE mended(1,0,0)=NONE guess(0,1,1)=0");
        add("Read anew: no LETTER was SENT: by a LINK", all + "<n3;e0 1 2;>=2 used(0)=0");
        add("Read anew: TIME 0", all + "<n3;e0 1 2;>=2 count(7)=0");
        add("Read anew: all COUNTS 0", all + "<n3;e0 1 2;>=2 node(0,0)=0 node(1,0)=0 node(2,0)=0");
        add("Read anew: none EXPLORED", "<e0 1 2;x1;>=2 sends(0,1)=2 node(0,1)=1 <e0 1 2;x1;>=2 node(0,1)=0 node(1,1)=0");
        add("Read anew: nothing SEEN", all + "<n3;>=1 count(8)=0 forget()=0");
        add("Read anew: IMAGES are gone", all + "<n3;>=1 back(0)=STATE back(1)=STATE");
        add("Read anew: nothing can be UNDONE", all + "<n3;>=1 count(10)=0 undo()=STATE");
        add("Read anew by an empty text: as at first", all + "net()=0 count(0)=2 count(1)=0 count(2)=0 count(4)=99 count(7)=0 back(0)=STATE");
        add("With a FAULT nothing is read anew", all + "<n2;%>=-13 count(0)=3 count(1)=2 count(2)=2 count(8)=1 count(10)=1 undo()=0 back(0)=2 back(1)=2");
        add("used since it was told", "<e0 1 2;>=1 sends(0,1)=2 used(0)=1 <e0 1 2;>=1 used(0)=0");
    }

    private void links() {
        String net = "<n3;e0 1 7;e2 1 8;>=3 ";
        add("5: 0 its lower NODE", net + "link(0,0)=0 link(1,0)=1");
        add("5: 1 the other one", net + "link(0,1)=1 link(1,1)=2");
        add("5: 2 DELAY", net + "link(0,2)=7 link(1,2)=8");
        add("5: BAD: no such LINK", net + "link(2,0)=BAD link(-1,0)=BAD");
        add("5: BAD: none at all", "link(0,0)=BAD link(0,2)=BAD");
        add("5: BAD: what", net + "link(0,3)=BAD link(0,-1)=BAD");
    }
}
