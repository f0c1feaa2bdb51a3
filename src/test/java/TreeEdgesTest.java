/** Boundary cases of promises 21 to 30: heights, trees, worth, what is wrong, what fits; both sides of each. */
public final class TreeEdgesTest {
    public static void main(String[] args) {
        heightRange();
        lowHeights();
        greatHeights();
        leastHeights();
        fewNodes();
        twoHundredNodes();
        nodeRange();
        nodesTold();
        treesFromTheLeft();
        worths();
        worthOfManyNodes();
        howManyPieces();
        wrongRange();
        greatestEnds();
        causes();
        causesWithinOthers();
        bodyRange();
        bodies();
        insideRange();
        insides();
        fitsRange();
        howManyFit();
        classesThatFit();
        commonest();
        Bench.closeEdges("TreeEdgesTest", 21, 30);
    }

    private static void height(Bench bench, int sort, int i, int j, int due) {
        Bench.due("height(" + sort + ", " + i + ", " + j + ") of " + bench.typed, bench.parses.height(sort, i, j), due);
    }

    private static final int[][] BAD_PIECES = {{-1, 0, 0}, {8, 0, 0}, {0, -1, 0}, {0, -1, -1}, {0, 0, -1}, {0, 0, 3}, {0, 3, 3}, {0, 2, 1}, {0, 1, 0}};

    private static void heightRange() {
        Bench.edge(21, "i, j, the SORT out of range");
        Bench bench = Bench.with("token 0;token 7 'ab';").type("ab");
        PrunedParses parses = bench.parses;
        height(bench, 0, 0, 0, 1);
        height(bench, 0, 2, 2, 1);
        height(bench, 7, 0, 2, 1);
        for (int[] row : BAD_PIECES) bench.refuses("height" + row[0] + " " + row[1] + " " + row[2], () -> parses.height(row[0], row[1], row[2]));
        Bench.edge(21, "NONE: it is not OF the SORT");
        height(bench, 0, 0, 1, -1);
        height(bench, 7, 0, 1, -1);
        height(bench, 6, 0, 0, -1);
    }

    private static void lowHeights() {
        Bench.edge(21, "1 by a QUOTE, however high its BODY is");
        Bench bench = Bench.with("token 0 @1;token 1 @2;token 2 'x';quote 3 0 '<>!';token 4 @3;").type("<x>");
        height(bench, 0, 1, 2, 3);
        height(bench, 3, 0, 3, 1);
        height(bench, 4, 0, 3, 2);
        Bench.edge(21, "1 by a PRODUCTION all of whose EL are CLASSES and WORDS, so one without EL");
        bench = Bench.with("class [x];token 0;token 1 'x';token 2 #0;token 3 'x' #0 'x' #0;token 4 'x' @0;").type("xxxx");
        height(bench, 0, 2, 2, 1);
        height(bench, 1, 0, 1, 1);
        height(bench, 2, 0, 1, 1);
        height(bench, 3, 0, 4, 1);
        height(bench, 4, 0, 1, 2);
        Bench.edge(21, "else 1 more than the greatest HEIGHT of its EL that are SORTS: the first, the last of four");
        bench = Bench.with("token 0 @1 'a' 'b' 'c';token 0 'd' 'e' 'f' @1;token 1 @2;token 2 'x';token 3 @1 @2 @2 @2;token 3 'y' @2 @2 @1;").type("xabc");
        height(bench, 0, 0, 4, 3);
        height(bench.type("defx"), 0, 0, 4, 3);
        height(bench.type("xxxx"), 3, 0, 4, 3);
        height(bench.type("yxxx"), 3, 0, 4, 3);
    }

    private static void greatHeights() {
        Bench.edge(21, "as high as there are SORTS");
        Bench bench = Bench.with("token 0 @1;token 1 @2;token 2 @3;token 3 @4;token 4 @5;token 5 @6;token 6 @7;token 7 'a';").type("a");
        for (int sort = 0; sort < 8; sort++) height(bench, sort, 0, 1, 8 - sort);
        Bench.edge(21, "as high as the TEXT is long");
        bench = Bench.with("token 0;token 0 @0 'a';token 1;token 1 'a' @1;token 2 'a';token 2 @2 @2;").type(Bench.times("a", 24));
        height(bench, 0, 0, 24, 25);
        height(bench, 1, 0, 24, 25);
        height(bench, 0, 24, 24, 1);
        int[] halves = {1, 2, 3, 3, 4, 4, 4, 4, 5};
        for (int j = 1; j <= 9; j++) height(bench, 2, 0, j, halves[j - 1]);
        height(bench, 2, 0, 16, 5);
        height(bench, 2, 0, 17, 6);
        height(bench, 2, 0, 24, 6);
        Bench.edge(21, "as high as both together");
        bench = Bench.with("token 0 @1;token 1 @2;token 2 @3;token 3 @4;token 4 @5;token 5 @6;token 6 @7;token 7 @0 'a';token 7;").type(Bench.times("a", 24));
        height(bench, 7, 0, 0, 1);
        height(bench, 0, 0, 0, 8);
        height(bench, 7, 0, 1, 9);
        height(bench, 0, 0, 24, 8 * 25);
        Bench.due("nodes(0, 0, 24)", bench.parses.nodes(0, 0, 24), 200);
        Bench.due("worth(0)", bench.parses.worth(0), 200);
        Bench.due("nodes(7, 0, 24)", bench.parses.nodes(7, 0, 24), 8 * 24 + 1);
    }

    private static void leastHeights() {
        Bench.edge(21, "the least such number by any of its WAYS, whichever is told first");
        Bench bench = Bench.with("token 0 @1;token 1 @2;token 2 'a';token 0 @2;token 3 @2;token 3 @1;token 4 @1;quote 4 5 'aab';token 5;").type("a");
        height(bench, 0, 0, 1, 2);
        height(bench, 3, 0, 1, 2);
        height(bench, 4, 0, 1, 3);
        height(bench.type("aa"), 4, 0, 2, 1);
        Bench.edge(21, "by itself no PIECE is higher");
        bench = Bench.with("token 0 @0;token 0 'a';token 1 @1 @1;token 1;").type("a");
        height(bench, 0, 0, 1, 1);
        height(bench, 1, 1, 1, 1);
    }

    private static void nodes(Bench bench, int sort, int i, int j, int due) {
        Bench.due("nodes(" + sort + ", " + i + ", " + j + ") of " + bench.typed, bench.parses.nodes(sort, i, j), due);
    }

    private static void fewNodes() {
        Bench.edge(22, "i, j, the SORT out of range");
        Bench bench = Bench.with("token 0;token 7 'ab';token 6 @7;").type("ab");
        PrunedParses parses = bench.parses;
        for (int[] row : BAD_PIECES) bench.refuses("nodes" + row[0] + " " + row[1] + " " + row[2], () -> parses.nodes(row[0], row[1], row[2]));
        Bench.edge(22, "0: it is not OF the SORT; one; two");
        nodes(bench, 0, 0, 1, 0);
        nodes(bench, 5, 0, 2, 0);
        nodes(bench, 0, 2, 2, 1);
        nodes(bench, 7, 0, 2, 1);
        nodes(bench, 6, 0, 2, 2);
        Bench.edge(22, "a QUOTE's node has none behind it");
        bench = Bench.with("token 0 @1;token 1 'x';quote 2 0 '<>!';token 3 @2 @2;").type("<x><x>");
        nodes(bench, 0, 1, 2, 2);
        nodes(bench, 2, 0, 3, 1);
        nodes(bench, 3, 0, 6, 3);
        Bench.edge(22, "CLASSES and WORDS are no nodes; four SORTS are");
        bench = Bench.with("class [a];token 0 'a' #0 @1 'a';token 1;token 2 @1 @1 @1 @1;").type("aaa");
        nodes(bench, 0, 0, 3, 2);
        nodes(bench, 2, 0, 0, 5);
    }

    /** Sorts 0 to 3 have 1, 5, 21 and 85 nodes; 4 has 171 and those of 5. */
    private static Bench manyNodes(String fifth) {
        return Bench.with("token 0;token 1 @0 @0 @0 @0;token 2 @1 @1 @1 @1;token 3 @2 @2 @2 @2;token 4 @3 @3 @5;token 5 @2 @6;token 6" + fifth + ";");
    }

    private static void twoHundredNodes() {
        Bench.edge(22, "200 at most: 199, 200, 201");
        int[] sizes = {1, 5, 21, 85};
        Bench bench = manyNodes(" @1");
        for (int sort = 0; sort < 4; sort++) nodes(bench, sort, 0, 0, sizes[sort]);
        nodes(bench, 6, 0, 0, 6);
        nodes(bench, 5, 0, 0, 28);
        nodes(bench, 4, 0, 0, 199);
        nodes(manyNodes(" @1 @0"), 4, 0, 0, 200);
        nodes(manyNodes(" @1 @0 @0"), 4, 0, 0, 200);
        nodes(manyNodes(" @1 @0 @0"), 5, 0, 0, 30);
        Bench.edge(22, "200 at most: far more");
        bench = Bench.with("token 0 @1 @1 @1 @1;token 1 @2 @2 @2 @2;token 2 @3 @3 @3 @3;token 3 @4 @4 @4 @4;token 4 @5 @5 @5 @5;token 5 @6 @6 @6 @6;"
            + "token 6 @7 @7 @7 @7;token 7;");
        nodes(bench, 0, 0, 0, 200);
        nodes(bench, 3, 0, 0, 200);
        nodes(bench, 4, 0, 0, 85);
        deepNodes();
        Bench.edge(23, "those behind are left out: the 200th is told, the 201st is not");
        int[] last = {198, 199, 199};
        String[] fifths = {" @1", " @1 @0", " @1 @0 @0"};
        for (int k = 0; k < 3; k++) {
            Bench many = manyNodes(fifths[k]);
            int[] due = {0, 0, 0, 1, 1, k == 0 ? 4 : 3};
            for (int what = 0; what < 6; what++) {
                Bench.due("node(4, " + last[k] + ", " + what + ")", many.parses.node(4, last[k], what), due[what]);
                Bench.due("node(4, " + (last[k] + 1) + ", " + what + ")", many.parses.node(4, last[k] + 1, what), -1);
            }
        }
    }

    /** Down to the left 162 nodes, each with two or three empty ones to its right, that are told from below on. */
    private static void deepNodes() {
        Bench.edge(23, "a node ahead of those behind it: 162 down to the left, then 38 of those to the right, from below on");
        Bench bench = Bench.with("token 0 'b';token 0 @1 @7 @7 @7;token 1 @2 @7 @7 @7;token 2 @3 @7 @7 @7;token 3 @4 @7 @7 @7;"
            + "token 4 @5 @7 @7 @7;token 5 @6 @7 @7 @7;token 6 @0 'a' @7 @7;token 7;");
        bench.type("b" + Bench.times("a", 23));
        nodes(bench, 0, 0, 24, 200);
        for (int k = 0; k < 162; k += k < 100 ? 9 : 3) node(bench, 0, k, k % 7, 0, 24 - k / 7, 162 - k, 1, k);
        node(bench, 0, 161, 0, 0, 1, 1, 1, 161);
        int[] deep = {161, 161, 160, 160, 160, 159};
        for (int k = 0; k < deep.length; k++) node(bench, 0, 162 + k, 7, 2, 2, 1, 1, deep[k]);
        node(bench, 0, 181, 7, 2, 2, 1, 1, 155);
        node(bench, 0, 182, 7, 3, 3, 1, 1, 154);
        node(bench, 0, 199, 7, 3, 3, 1, 1, 148);
        node(bench, 0, 200);
    }

    private static void node(Bench bench, int sort, int k, int... due) {
        for (int what = 0; what < 6; what++) {
            Bench.due("node(" + sort + ", " + k + ", " + what + ") of " + bench.typed, bench.parses.node(sort, k, what), due.length == 0 ? -1 : due[what]);
        }
    }

    private static void nodeRange() {
        Bench.edge(23, "k below 0");
        Bench bench = Bench.with("token 0 @1;token 1 'a';token 7 'aa';").type("a");
        PrunedParses parses = bench.parses;
        node(bench, 0, 0, 0, 0, 1, 2, 1, 0);
        bench.refuses("node(0, -1, 0)", () -> parses.node(0, -1, 0));
        bench.refuses("node(0, least, 0)", () -> parses.node(0, Integer.MIN_VALUE, 0));
        Bench.edge(23, "there are not so many");
        node(bench, 0, 1, 1, 0, 1, 1, 1, 1);
        node(bench, 0, 2);
        node(bench, 0, Integer.MAX_VALUE);
        Bench.edge(23, "so, too, if the TEXT is not OF the SORT");
        node(bench, 7, 0);
        node(bench, 6, 0);
        bench.refuses("node(7, -1, 0)", () -> parses.node(7, -1, 0));
        Bench.edge(23, "another what, no such SORT");
        bench.refuses("node(0, 0, 6)", () -> parses.node(0, 0, 6));
        bench.refuses("node(0, 0, -1)", () -> parses.node(0, 0, -1));
        bench.refuses("node(8, 0, 0)", () -> parses.node(8, 0, 0));
        bench.refuses("node(-1, 0, 0)", () -> parses.node(-1, 0, 0));
        bench.refuses("node(7, 9, 6)", () -> parses.node(7, 9, 6));
    }

    private static void nodesTold() {
        Bench.edge(23, "of the whole TEXT, an empty one, a full one");
        Bench bench = Bench.with("token 0;token 0 'a' @0;token 7 @0;");
        node(bench, 0, 0, 0, 0, 0, 1, 1, 0);
        node(bench, 7, 1, 0, 0, 0, 1, 1, 1);
        node(bench, 7, 2);
        bench.type(Bench.times("a", 24));
        for (int k = 0; k < 25; k++) node(bench, 0, k, 0, k, 24, 25 - k, 1, k);
        node(bench, 0, 25);
        Bench.edge(23, "of the TEXT as it stands, whichever PIECES were asked for before");
        Bench other = Bench.with("token 0 'a';token 0 @0 @0;token 0 'bb';").type("aaa");
        nodes(other, 0, 0, 3, 5);
        nodes(other, 0, 1, 3, 3);
        nodes(other, 0, 0, 3, 5);
        nodes(other, 0, 0, 2, 3);
        nodes(other, 0, 0, 1, 1);
        nodes(other, 0, 0, 3, 5);
        nodes(other, 0, 2, 3, 1);
        node(other, 0, 0, 0, 0, 3, 3, 2, 0);
        nodes(other, 0, 2, 3, 1);
        Bench.due("worth(0) behind nodes(0, 2, 3)", other.parses.worth(0), 5);
        nodes(other.type("abb"), 0, 0, 3, 3);
        node(other, 0, 2, 0, 1, 3, 1, 1, 1);
        nodes(other.type("bba"), 0, 0, 3, 3);
        node(other, 0, 1, 0, 0, 2, 1, 1, 1);
        nodes(other.type("bbb"), 0, 0, 3, 0);
        nodes(other, 1, 0, 3, 0);
        other = Bench.with("token 0;token 0 @0 'a';token 1;").type("aaa");
        nodes(other, 0, 0, 3, 4);
        nodes(other, 0, 0, 0, 1);
        nodes(other, 0, 0, 3, 4);
        nodes(other, 1, 0, 0, 1);
        nodes(other, 0, 3, 3, 1);
        node(other, 0, 3, 0, 0, 0, 1, 1, 3);
        Bench.edge(23, "a node ahead of those behind it, these from the left");
        bench = Bench.with("token 0 @1 @2 @3 @4;token 1 @5 'a' @5;token 2 'b';token 3 @5;token 4 @2;token 5;").type("abb");
        int[][] due = {{0, 0, 3, 3, 1, 0}, {1, 0, 1, 2, 1, 1}, {5, 0, 0, 1, 1, 2}, {5, 1, 1, 1, 1, 2}, {2, 1, 2, 1, 1, 1}, {3, 2, 2, 2, 1, 1},
            {5, 2, 2, 1, 1, 2}, {4, 2, 3, 2, 1, 1}, {2, 2, 3, 1, 1, 2}};
        for (int k = 0; k < due.length; k++) node(bench, 0, k, due[k]);
        node(bench, 0, due.length);
        Bench.edge(23, "WAYS of a node: 9,999 at most");
        bench = Bench.with("class ~[];token 0;token 0@0#0;" + Bench.times("token 1@0@0@0@0;", 4) + "token 2 @1;").type(Bench.times("a", 24));
        node(bench, 2, 1, 1, 0, 24, 8, 9999, 1);
        bench = Bench.with("class ~[];token 0;token 0@0#0;" + Bench.times("token 1@0@0@0@0;", 3) + "token 2 @1;").type(Bench.times("a", 24));
        Bench.due("node(2, 1, 4)", bench.parses.node(2, 1, 4), 8775);
    }

    private static void treesFromTheLeft() {
        Bench.edge(23, "by the first PRODUCTION by which it has its HEIGHT");
        Bench bench = Bench.with("token 0 @1;token 1 @2;token 2 'a';token 0 @3;token 0 @2;token 3 'a';").type("a");
        node(bench, 0, 0, 0, 0, 1, 2, 3, 0);
        node(bench, 0, 1, 3, 0, 1, 1, 1, 1);
        node(bench, 0, 2);
        Bench.edge(23, "QUOTES behind PRODUCTIONS, though they are told first");
        bench = Bench.with("quote 0 1 '<>!';token 1;token 0 '<>';quote 2 1 '<>!';token 2 @0;").type("<>");
        nodes(bench, 0, 0, 2, 1);
        nodes(bench, 2, 0, 2, 1);
        Bench.edge(23, "each ends as early as can be");
        bench = Bench.with("token 0 @1 @1;token 1;token 1 'a';token 1 'aa';").type("aa");
        node(bench, 0, 0, 0, 0, 2, 2, 3, 0);
        node(bench, 0, 1, 1, 0, 0, 1, 1, 1);
        node(bench, 0, 2, 1, 0, 2, 1, 1, 1);
        bench.type("aaa");
        node(bench, 0, 1, 1, 0, 1, 1, 1, 1);
        node(bench, 0, 2, 1, 1, 3, 1, 1, 1);
        bench.type("aaaa");
        node(bench, 0, 1, 1, 0, 2, 1, 1, 1);
        Bench.edge(23, "so that all PIECES of it are of less HEIGHT");
        bench = Bench.with("token 0 @0 @0;token 0 'a';token 0 'bb';").type("aaaa");
        node(bench, 0, 0, 0, 0, 4, 3, 3, 0);
        node(bench, 0, 1, 0, 0, 2, 2, 1, 1);
        node(bench, 0, 4, 0, 2, 4, 2, 1, 1);
        bench.type("aaa");
        node(bench, 0, 1, 0, 0, 1, 1, 1, 1);
        node(bench, 0, 2, 0, 1, 3, 2, 1, 1);
        Bench.edge(23, "layout stands between nodes of a rule");
        bench = Bench.with("class [\\ ];lay #0;rule 0 @1 @2 @1;token 1 'a';token 2;").type("a  a");
        node(bench, 0, 1, 1, 0, 1, 1, 1, 1);
        node(bench, 0, 2, 2, 3, 3, 1, 1, 1);
        node(bench, 0, 3, 1, 3, 4, 1, 1, 1);
    }

    private static void worths() {
        Bench.edge(24, "0: it is not OF the SORT");
        Bench bench = Bench.with("token 0 'a';token 1 @0;token 7 @1;").type("a");
        bench.law("5");
        Bench.due("worth(0)", bench.parses.worth(0), 5);
        Bench.due("worth(6)", bench.parses.worth(6), 0);
        Bench.due("worth(7)", bench.parses.worth(7), 15);
        bench.type("aa");
        Bench.due("worth(7) of aa", bench.parses.worth(7), 0);
        Bench.edge(24, "no such SORT");
        bench.refuses("worth(-1)", () -> bench.parses.worth(-1));
        bench.refuses("worth(8)", () -> bench.parses.worth(8));
        Bench.edge(24, "of all nodes together: one, two, without a LAW");
        Bench plain = Bench.with("token 0 'a';token 1 @0;").type("a");
        Bench.due("worth(0)", plain.parses.worth(0), 1);
        Bench.due("worth(1)", plain.parses.worth(1), 2);
        Bench.edge(24, "of an empty TEXT that is OF the SORT");
        Bench empty = Bench.with("token 0;");
        empty.law("to+9");
        Bench.due("worth(0) of none", empty.parses.worth(0), 9);
        Bench.edge(24, "it wraps");
        plain.law("256*256*256*64*2-1");
        Bench.due("worth(0)", plain.parses.worth(0), Integer.MAX_VALUE);
        Bench.due("worth(1)", plain.parses.worth(1), -2);
        plain.law("256*256*256*64");
        Bench.due("worth(1) of halves", plain.parses.worth(1), Integer.MIN_VALUE);
        plain.law("256*256*256*128");
        Bench.due("worth(1) of least ones", plain.parses.worth(1), 0);
    }

    private static void worthOfManyNodes() {
        Bench.edge(24, "of all nodes that are told: 199, 200, not the 201st");
        Bench.due("worth(4) of 199", manyNodes(" @1").parses.worth(4), 199);
        Bench.due("worth(4) of 200", manyNodes(" @1 @0").parses.worth(4), 200);
        Bench.due("worth(4) of 201", manyNodes(" @1 @0 @0").parses.worth(4), 200);
        Bench.edge(24, "WAYS in a LAW: 9,999 at most");
        Bench bench = Bench.with("class ~[];token 0;token 0@0#0;" + Bench.times("token 1@0@0@0@0;", 4)).type(Bench.times("a", 24));
        bench.law("ways/2");
        Bench.due("worth(1)", bench.parses.worth(1), 4999);
        Bench.edge(24, "what a node is: each of what a LAW can name, at its least and greatest");
        bench = Bench.with("token 0 @1 @1;token 1;token 7 @0;token 7 'x' @7;");
        int[] empty = {2, 0, 0, 4, 4, 2};
        String[] names = {"sort", "from", "to", "high", "ways", "deep"};
        for (int k = 0; k < 6; k++) {
            bench.law(names[k]);
            Bench.due("worth(0) by " + names[k], bench.parses.worth(0), k == 4 ? 3 : empty[k]);
        }
        bench.type(Bench.times("x", 24));
        int[] full = {25 * 7 + 2, 23 * 12 + 24 + 3 * 24, 28 * 24, 24 * 27 - 23 * 12 + 3 + 2 + 1 + 1, 25 + 3, 24 * 25 / 2 + 25 + 26 + 26};
        for (int k = 0; k < 6; k++) {
            bench.law(names[k]);
            Bench.due("worth(7) by " + names[k], bench.parses.worth(7), full[k]);
        }
    }

    private static void howManyPieces() {
        Bench.edge(25, "how many: none, one, all 325");
        Bench bench = Bench.with("class ~[];token 0;token 0 @0 #0;token 1 'x';token 7;").type("abcdefghijklmnopqrstuvwx");
        int[] due = {325, 1, 0, 0, 0, 0, 0, 25};
        for (int sort = 0; sort < 8; sort++) Bench.due("pieces(" + sort + ")", bench.parses.pieces(sort), due[sort]);
        Bench.edge(25, "of an empty TEXT");
        bench.work("cut 0 24;");
        int[] empty = {1, 0, 0, 0, 0, 0, 0, 1};
        for (int sort = 0; sort < 8; sort++) Bench.due("pieces(" + sort + ") of none", bench.parses.pieces(sort), empty[sort]);
        Bench.edge(25, "no such SORT");
        bench.refuses("pieces(-1)", () -> bench.parses.pieces(-1));
        bench.refuses("pieces(8)", () -> bench.parses.pieces(8));
    }

    private static void wrongs(Bench bench, int sort, int... due) {
        for (int k = 0; k <= due.length / 3; k++) {
            for (int what = 0; what < 3; what++) {
                int at = k * 3 + what;
                Bench.due("wrong(" + sort + ", " + k + ", " + what + ") of " + bench.typed, bench.parses.wrong(sort, k, what), at < due.length ? due[at] : -1);
            }
        }
    }

    private static void wrongRange() {
        Bench.edge(26, "k below 0, another what, no such SORT");
        Bench bench = Bench.with("token 0 'a';").type("b");
        PrunedParses parses = bench.parses;
        wrongs(bench, 0, 0, 0, 1);
        wrongs(bench, 7, 0, 7, 1);
        int[][] bad = {{-1, 0, 0}, {8, 0, 0}, {0, -1, 0}, {0, Integer.MIN_VALUE, 0}, {0, 0, -1}, {0, 0, 3}};
        for (int[] row : bad) bench.refuses("wrong" + row[0] + " " + row[1] + " " + row[2], () -> parses.wrong(row[0], row[1], row[2]));
        Bench.edge(26, "NONE: there are not so many");
        Bench.due("wrong(0, 1, 0)", parses.wrong(0, 1, 0), -1);
        Bench.due("wrong(0, greatest, 0)", parses.wrong(0, Integer.MAX_VALUE, 0), -1);
        Bench.edge(26, "none, if the TEXT is OF the SORT");
        wrongs(bench.type("a"), 0);
        wrongs(Bench.with("token 0;"), 0);
        wrongs(bench, 1, 0, 1, 1);
    }

    private static void greatestEnds() {
        Bench.edge(26, "the greatest J: 0 without, 0 of an empty PIECE, one, all but one");
        Bench bench = Bench.with("token 0;token 1 'a';token 1 @1 'a';token 2 @1;").type("ba");
        wrongs(bench, 0, 0, 0, 2);
        wrongs(bench, 1, 0, 1, 2);
        wrongs(bench.type("ab"), 1, 1, 1, 2);
        bench.type(Bench.times("a", 23) + "b");
        wrongs(bench, 2, 23, 2, 24);
        wrongs(bench, 0, 0, 0, 24);
        wrongs(bench.type("aabaaa"), 1, 2, 1, 6);
        Bench.edge(26, "the greatest J is not the first one");
        bench = Bench.with("token 0 'a';token 0 'aaa';token 0 'b' @0;").type("aaaa");
        wrongs(bench, 0, 3, 0, 4);
        Bench.edge(26, "of an empty TEXT");
        wrongs(Bench.with("token 0 'a';"), 0, 0, 0, 0);
        wrongs(new Bench(), 7, 0, 7, 0);
    }

    private static void causes() {
        Bench.edge(26, "of places from the left the first one, at the first SIGN, at the last that can be");
        Bench bench = Bench.with("token 0 'a';quote 1 0 '<>!';token 2 @1 @1;").type("<b>a");
        wrongs(bench, 2, 0, 2, 4, 0, 0, 1);
        wrongs(bench.type("a<>"), 2, 0, 2, 3, 0, 0, 0);
        wrongs(bench.type("<bb><ab>"), 2, 0, 2, 8, 0, 0, 2);
        wrongs(bench.type("<a><ab>"), 2, 0, 2, 7, 1, 0, 2);
        wrongs(bench.type("zzzzzzzzzzzzzzzzzzzzzz<>"), 2, 0, 2, 24, 0, 0, 0);
        Bench.edge(26, "and there of QUOTES by number, of whichever SORT");
        bench = Bench.with("token 0 'a';token 1 'b';quote 5 0 '<>!';quote 6 1 '<>!';quote 7 1 '<]!';quote 4 0 '<]!';");
        wrongs(bench.type("<c>"), 2, 0, 2, 3, 0, 0, 1);
        wrongs(bench.type("<a>"), 2, 0, 2, 3, 0, 1, 1);
        wrongs(bench.type("<a>]"), 2, 0, 2, 4, 0, 1, 1);
        wrongs(bench.type("<b]>"), 2, 0, 2, 4, 0, 0, 2);
        wrongs(bench.type("<b]"), 2, 0, 2, 3, 0, 0, 1);
        wrongs(bench.type("<a]"), 2, 0, 2, 3, 0, 1, 1);
        Bench.edge(26, "that begins there and ends, with OPEN, and CLOSE");
        bench = Bench.with("token 0 'a';quote 1 0 '<>!';");
        wrongs(bench.type("<b"), 1, 0, 1, 2);
        wrongs(bench.type("<b!>"), 1, 0, 1, 4);
        wrongs(bench.type("<b!"), 1, 0, 1, 3);
        wrongs(bench.type("b>"), 1, 0, 1, 2);
        wrongs(bench.type("<b!>>"), 1, 0, 1, 5, 0, 0, 2);
        Bench.edge(26, "whose BODY is not OF its T: one that is tells no cause");
        wrongs(bench.type("<a>c"), 1, 3, 1, 4);
        wrongs(bench.type("<a><c>"), 1, 3, 1, 6, 0, 0, 1);
        Bench.edge(26, "a BODY of no SIGNS, of 22, with its own greatest J");
        wrongs(bench.type("<>"), 1, 0, 1, 2, 0, 0, 0);
        wrongs(bench.type("<" + Bench.times("a", 22) + ">"), 1, 0, 1, 24, 1, 0, 22);
    }

    private static void causesWithinOthers() {
        Bench.edge(26, "a BODY within fewer than three others: four WRONGS at most");
        String grammar = "token 0 'x';quote 0 0 '<>!';quote 0 0 '()!';quote 0 0 '{}!';quote 0 0 '[]!';";
        Bench bench = Bench.with(grammar);
        wrongs(bench.type("<y>"), 0, 0, 0, 3, 0, 0, 1);
        wrongs(bench.type("<(y)>"), 0, 0, 0, 5, 0, 0, 3, 0, 0, 1);
        wrongs(bench.type("<({y})>"), 0, 0, 0, 7, 0, 0, 5, 0, 0, 3, 0, 0, 1);
        wrongs(bench.type("<({[y]})>"), 0, 0, 0, 9, 0, 0, 7, 0, 0, 5, 0, 0, 3);
        wrongs(bench.type("<({[x]})>"), 0, 0, 0, 9, 0, 0, 7, 0, 0, 5, 0, 0, 3);
        Bench.edge(26, "a BODY within three others tells no cause, one beside it may");
        bench = Bench.with(grammar);
        wrongs(bench.type("<({x[x]})>"), 0, 0, 0, 10, 0, 0, 8, 0, 0, 6, 1, 0, 4);
        wrongs(bench.type("<({[x]}(y))>"), 0, 0, 0, 12, 0, 0, 10, 0, 0, 7, 0, 0, 3);
        wrongs(bench.type("<(x)(y)>"), 0, 0, 0, 8, 3, 0, 6, 0, 0, 1);
        wrongs(bench.type("<(x)y>"), 0, 0, 0, 6, 3, 0, 4);
        wrongs(bench.type("<({x})y>"), 0, 0, 0, 8, 5, 0, 6);
    }

    private static void body(Bench bench, int quote, int place, int due) {
        Bench.due("body(" + quote + ", " + place + ") of " + bench.typed, bench.parses.body(quote, place), due);
    }

    private static void bodyRange() {
        Bench.edge(27, "no such QUOTE, no such place");
        Bench none = new Bench().type("a");
        none.misses("body(0, 0) without QUOTES", () -> none.parses.body(0, 0));
        Bench bench = Bench.with("quote 0 1 '<>!';quote 0 1 'ab!';quote 0 1 'ab!';quote 0 1 '()!';").type("<>()");
        body(bench, 0, 0, 0);
        body(bench, 3, 2, 0);
        body(bench, 0, 3, -1);
        bench.misses("body(4, 0)", () -> bench.parses.body(4, 0));
        bench.misses("body(-1, 0)", () -> bench.parses.body(-1, 0));
        bench.misses("body(0, 4)", () -> bench.parses.body(0, 4));
        bench.misses("body(0, -1)", () -> bench.parses.body(0, -1));
        bench.misses("body(greatest, least)", () -> bench.parses.body(Integer.MAX_VALUE, Integer.MIN_VALUE));
        bench.work("cut 0 4;");
        bench.misses("body(0, 0) of none", () -> bench.parses.body(0, 0));
    }

    private static void bodies() {
        Bench.edge(27, "how many SIGNS: none, one, 22");
        Bench bench = Bench.with("quote 0 1 '<>!';quote 2 3 '\"\"!';");
        body(bench.type("<>"), 0, 0, 0);
        body(bench.type("<a>"), 0, 0, 1);
        body(bench.type("<" + Bench.times("a", 22) + ">"), 0, 0, 22);
        body(bench.type("<!>!>!>!>!>!>!>!>!>!>!>>"), 0, 0, 11);
        body(bench, 0, 1, -1);
        Bench.edge(27, "NONE: none begins there");
        body(bench.type("a<a>>"), 0, 0, -1);
        body(bench, 0, 1, 1);
        body(bench, 0, 2, -1);
        body(bench, 0, 4, -1);
        body(bench, 1, 1, -1);
        Bench.edge(27, "NONE: none ends");
        body(bench.type("<a"), 0, 0, -1);
        body(bench.type("<"), 0, 0, -1);
        body(bench.type("<!>"), 0, 0, -1);
        body(bench.type("<>!"), 0, 0, 0);
        body(bench.type("<a!"), 0, 0, -1);
        body(bench.type(Bench.times("a", 23) + "<"), 0, 23, -1);
        body(bench.type(Bench.times("a", 22) + "<>"), 0, 22, 0);
        Bench.edge(27, "OPEN like CLOSE");
        body(bench.type("\"a\"\""), 1, 0, 1);
        body(bench, 1, 2, 0);
        body(bench, 1, 3, -1);
        Bench.edge(27, "whether it is OF its T or not");
        bench = Bench.with("quote 0 1 '<>!';token 1 'a';").type("<a><b>");
        body(bench, 0, 0, 1);
        body(bench, 0, 3, 1);
    }

    private static void insideRange() {
        Bench.edge(28, "no such QUOTE, no such place, ahead of others");
        Bench bench = Bench.with("quote 0 1 '<>!';").type("<a>");
        PrunedParses parses = bench.parses;
        Bench.due("inside(0, 0, 0)", parses.inside(0, 0, 0), 'a');
        Bench.due("inside(0, 2, 0)", parses.inside(0, 2, 0), -1);
        int[][] missing = {{1, 0, 0}, {-1, 0, 0}, {0, 3, 0}, {0, -1, 0}, {1, 0, -1}, {0, 3, -1}, {-1, -1, -1}};
        for (int[] row : missing) bench.misses("inside" + row[0] + " " + row[1] + " " + row[2], () -> parses.inside(row[0], row[1], row[2]));
        Bench.edge(28, "k below 0");
        bench.refuses("inside(0, 0, -1)", () -> parses.inside(0, 0, -1));
        bench.refuses("inside(0, 0, least)", () -> parses.inside(0, 0, Integer.MIN_VALUE));
        bench.refuses("inside(0, 1, -1) where none begins", () -> parses.inside(0, 1, -1));
    }

    private static void insides() {
        Bench.edge(28, "NONE: there are not so many");
        Bench bench = Bench.with("quote 0 1 '<>!';").type("<>");
        Bench.due("inside(0, 0, 0) of none", bench.parses.inside(0, 0, 0), -1);
        bench.type("<ab>");
        int[] due = {'a', 'b', -1, -1};
        for (int k = 0; k < 4; k++) Bench.due("inside(0, 0, " + k + ")", bench.parses.inside(0, 0, k), due[k]);
        Bench.due("inside(0, 0, greatest)", bench.parses.inside(0, 0, Integer.MAX_VALUE), -1);
        String long22 = "abcdefghijklmnopqrstuv";
        bench.type("<" + long22 + ">");
        for (int k = 0; k < 22; k++) Bench.due("inside(0, 0, " + k + ") of 22", bench.parses.inside(0, 0, k), long22.charAt(k));
        Bench.due("inside(0, 0, 22) of 22", bench.parses.inside(0, 0, 22), -1);
        Bench.edge(28, "NONE: none begins there, or ends; what an earlier BODY had is gone");
        bench.type("<abc>");
        Bench.due("inside(0, 0, 2)", bench.parses.inside(0, 0, 2), 'c');
        bench.type("<a>");
        Bench.due("inside(0, 0, 1)", bench.parses.inside(0, 0, 1), -1);
        Bench.due("inside(0, 1, 0)", bench.parses.inside(0, 1, 0), -1);
        bench.type("<ab");
        Bench.due("inside(0, 0, 0) without CLOSE", bench.parses.inside(0, 0, 0), -1);
        bench.type("<ab!");
        Bench.due("inside(0, 0, 0) with ESCAPE last", bench.parses.inside(0, 0, 0), -1);
        Bench.edge(28, "SIGNS that are escaped");
        bench.type("<!>!!!<!a!>>");
        int[] escaped = {'>', '!', '<', 'a', '>', -1};
        for (int k = 0; k < 6; k++) Bench.due("inside(0, 0, " + k + ") escaped", bench.parses.inside(0, 0, k), escaped[k]);
    }

    private static void fits(Bench bench, int sort, int place, int many, int least, int group) {
        String name = "fits(" + sort + ", " + place + ", ";
        Bench.due(name + "0) of " + bench.typed, bench.parses.fits(sort, place, 0), many);
        Bench.due(name + "1) of " + bench.typed, bench.parses.fits(sort, place, 1), least);
        Bench.due(name + "2) of " + bench.typed, bench.parses.fits(sort, place, 2), group);
    }

    private static void fitsRange() {
        Bench.edge(29, "no such place, ahead of others");
        Bench none = Bench.with("token 0 'a';");
        none.misses("fits(0, 0, 0) of none", () -> none.parses.fits(0, 0, 0));
        Bench bench = Bench.with("token 0 'ab';token 7 'ab';").type("ab");
        PrunedParses parses = bench.parses;
        fits(bench, 0, 0, 1, 'a', -1);
        fits(bench, 7, 1, 1, 'b', -1);
        int[][] missing = {{0, 2, 0}, {0, -1, 0}, {8, 2, 0}, {0, 2, 3}, {-1, -1, -1}, {0, Integer.MAX_VALUE, 0}};
        for (int[] row : missing) bench.misses("fits" + row[0] + " " + row[1] + " " + row[2], () -> parses.fits(row[0], row[1], row[2]));
        Bench.edge(29, "no such SORT, another what");
        int[][] bad = {{-1, 0, 0}, {8, 0, 0}, {0, 0, -1}, {0, 0, 3}, {0, 1, 3}, {8, 1, 3}};
        for (int[] row : bad) bench.refuses("fits" + row[0] + " " + row[1] + " " + row[2], () -> parses.fits(row[0], row[1], row[2]));
    }

    private static void howManyFit() {
        Bench.edge(29, "how many: none, NONE both without");
        Bench bench = Bench.with("class [];token 0 #0;token 1 'ab';").type("x");
        fits(bench, 0, 0, 0, -1, -1);
        fits(bench, 1, 0, 0, -1, -1);
        fits(bench, 7, 0, 0, -1, -1);
        Bench.edge(29, "how many: one, that one, too");
        fits(bench.type("ab"), 1, 0, 1, 'a', -1);
        fits(bench.type("xb"), 1, 0, 1, 'a', -1);
        fits(bench.type("xx"), 1, 0, 0, -1, -1);
        Bench.edge(29, "how many: all 95, all but one, the least and the greatest alone");
        bench = Bench.with("class ~[];token 0 #0;class [\\ ];class [~];token 1 #1;token 2 #2;class ~[\\ ];token 3 #3;token 4 ' ';token 5 '~';").type("x");
        fits(bench, 0, 0, 95, 32, 0);
        fits(bench, 1, 0, 1, 32, 1);
        fits(bench, 2, 0, 1, 126, 2);
        fits(bench, 3, 0, 94, 33, 3);
        fits(bench, 4, 0, 1, 32, 1);
        fits(bench, 5, 0, 1, 126, 2);
        Bench.edge(29, "at the first place and the last of 24");
        bench = Bench.with("class [ab];token 0;token 0 @0 #0;").type(Bench.times("a", 23) + "x");
        fits(bench, 0, 23, 2, 'a', 0);
        fits(bench, 0, 22, 0, -1, -1);
        fits(bench.type("x" + Bench.times("a", 23)), 0, 0, 2, 'a', 0);
        fits(bench, 0, 1, 0, -1, -1);
        Bench.edge(29, "what a SIGN does as OPEN, CLOSE, ESCAPE");
        bench = Bench.with("class ~[];class ~[>!];token 0 #0;quote 1 0 '<>!';token 2 #0 #0;quote 3 2 '<>!';");
        fits(bench.type("<a>"), 1, 1, 93, 32, 1);
        fits(bench.type("<!a>"), 1, 2, 95, 32, 0);
        fits(bench.type("<!a>"), 1, 1, 1, '!', -1);
        fits(bench.type("<aa>"), 3, 1, 93, 32, 1);
        fits(bench.type("xa>"), 1, 0, 1, '<', -1);
        fits(bench.type("<ax"), 1, 2, 1, '>', -1);
        for (int k = 0; k < 4; k++) {
            bench = Bench.with("class ~[];token 0 #0;" + Bench.times("quote 7 7 '=*/';", k) + "quote 1 0 '<>!';").type("<a>");
            fits(bench, 1, 0, 1, '<', -1);
            fits(bench, 1, 2, 1, '>', -1);
            fits(bench.type("<aa>"), 1, 1, 1, '!', -1);
        }
        fits(Bench.with("token 0 'ab';").type("xb"), 0, 0, 1, 'a', -1);
        fits(Bench.with("rule 0 @1;token 1 'y' 'ab';").type("yax"), 0, 2, 1, 'b', -1);
        Bench.edge(29, "within quotes: a BODY within two others, not one within three");
        bench = Bench.with("class [xy];token 0 #0;quote 0 0 '<>!';quote 0 0 '()!';quote 0 0 '{}!';quote 0 0 '[]!';");
        fits(bench.type("<({z})>"), 0, 3, 2, 'x', 0);
        fits(bench.type("<({[x]})>"), 0, 4, 0, -1, -1);
        Bench.edge(29, "the least SIGN of all fits as others do, whatever was asked before");
        bench = Bench.with("class ~[];token 0 #0 @1;token 1 'z';token 2 @1 #0;").type("xz");
        fits(bench, 0, 0, 95, 32, 0);
        fits(bench.type("xxz"), 0, 0, 0, -1, -1);
        fits(bench.type("xz"), 0, 0, 95, 32, 0);
        fits(bench.type("zz"), 2, 1, 95, 32, 0);
        Bench.edge(29, "a SIGN that is layout, that may not follow, that makes what is dropped");
        bench = Bench.with("class [\\ _];lay #0;class [a-c];rule 0 #1 #1;token 1 'a';not 1 #1;token 2 @1 #0;token 2 @1 'b';token 3 #1 #1;token 4 'ab';drop 3 4;");
        fits(bench.type("axb"), 0, 1, 2, 32, 0);
        fits(bench.type("ab"), 2, 1, 2, 32, 0);
        fits(bench.type("ab"), 3, 1, 2, 'a', -1);
        fits(bench.type("xb"), 3, 0, 2, 'b', -1);
    }

    private static void classesThatFit() {
        Bench.edge(29, "the first CLASS that has just these: of two alike ones, of one more or less SIGNS");
        Bench bench = Bench.with("class [a-d];class [ab];class [b-c];class [a-c];class [abc];token 0 #4;").type("x");
        fits(bench, 0, 0, 3, 'a', 3);
        Bench.edge(29, "the first CLASS of all, the last of eight, none");
        bench = Bench.with("class [a];class [b];class [c];class [d];class [e];class [f];class [g];class [h];token 0 'a';token 1 'h';token 2 'i';").type("x");
        fits(bench, 0, 0, 1, 'a', 0);
        fits(bench, 1, 0, 1, 'h', 7);
        fits(bench, 2, 0, 1, 'i', -1);
        Bench.edge(29, "asked, nothing stays changed");
        bench.textIs("x");
        Bench.due("told(7)", bench.parses.told(7), 0);
        Bench.due("count(2)", bench.parses.count(2), 1);
    }

    private static void most(Bench bench, int sort, int many) {
        Bench.due("commonest(0) of " + bench.typed, bench.parses.commonest(0), sort);
        Bench.due("commonest(1) of " + bench.typed, bench.parses.commonest(1), many);
    }

    private static void commonest() {
        Bench.edge(30, "no PIECES at all");
        most(new Bench(), 0, 0);
        most(new Bench().type("a"), 0, 0);
        Bench.edge(30, "the most: the first SORT, the last, one more than others");
        most(Bench.with("token 0 'a';").type("a"), 0, 1);
        most(Bench.with("token 7 'a';").type("a"), 7, 1);
        most(Bench.with("token 0 'a';token 7 'a';token 7 'b';").type("ab"), 7, 2);
        most(Bench.with("token 7 'a';token 0 'a';token 0 'b';").type("ab"), 0, 2);
        most(Bench.with("class ~[];token 3;token 3 @3 #0;").type(Bench.times("a", 24)), 3, 325);
        for (int sort = 0; sort < 8; sort++) {
            int other = (sort + 3) % 8;
            most(Bench.with("token " + other + " 'a';token " + sort + " 'a';token " + sort + " 'b';").type("ab"), sort, 2);
        }
        Bench.edge(30, "of alike ones the first");
        most(Bench.with("token 6 'a';token 5 'a';token 4 'b';").type("ab"), 4, 1);
        most(Bench.with("token 0 'b';token 7 'a';").type("aab"), 7, 2);
        most(Bench.with("token 0 'b';token 7 'a';").type("ab"), 0, 1);
        Bench.edge(30, "another what");
        Bench bench = new Bench();
        bench.refuses("commonest(-1)", () -> bench.parses.commonest(-1));
        bench.refuses("commonest(2)", () -> bench.parses.commonest(2));
    }
}
