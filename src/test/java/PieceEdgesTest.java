/** Boundary cases of promises 16 to 20, and of what Terms say of pieces and ways: both sides of each. */
public final class PieceEdgesTest {
    private static final String FULL = "abcdefghijklmnopqrstuvwx";

    public static void main(String[] args) {
        signs();
        runs();
        runRange();
        pieceRange();
        emptyPieces();
        words();
        layout();
        layoutAndEmptyParts();
        signsThatMayNotFollow();
        drops();
        quotes();
        quotesThatDoNotEnd();
        escapes();
        bodiesWithinOthers();
        longBodies();
        likeBodies();
        leastSets();
        endsRange();
        manyEnds();
        waysRange();
        fewWays();
        manyWays();
        Bench.closeEdges("PieceEdgesTest", 16, 20);
    }

    private static void signs() {
        Bench.edge(16, "no such place");
        Bench empty = new Bench();
        empty.misses("sign(0) of none", () -> empty.parses.sign(0));
        Bench one = new Bench().type("~");
        Bench.due("sign(0) of one", one.parses.sign(0), 126);
        one.misses("sign(1) of one", () -> one.parses.sign(1));
        one.misses("sign(-1) of one", () -> one.parses.sign(-1));
        Bench full = new Bench().type(FULL);
        for (int place = 0; place < 24; place++) Bench.due("sign(" + place + ")", full.parses.sign(place), FULL.charAt(place));
        full.misses("sign(24)", () -> full.parses.sign(24));
        full.misses("sign(least)", () -> full.parses.sign(Integer.MIN_VALUE));
        full.misses("sign(greatest)", () -> full.parses.sign(Integer.MAX_VALUE));
        Bench.edge(16, "where a SIGN was cut away there is none");
        full.work("cut 23 1;");
        Bench.due("sign(22)", full.parses.sign(22), 'w');
        full.misses("sign(23)", () -> full.parses.sign(23));
        full.parses.undo();
        Bench.due("sign(23) behind undo()", full.parses.sign(23), 'x');
    }

    private static void run(Bench bench, int... due) {
        for (int place = 0; place < due.length; place++) Bench.due("run(" + place + ") of " + bench.typed, bench.parses.run(place), due[place]);
    }

    private static void runs() {
        Bench.edge(17, "the greatest place from P on: at the first SIGN, at the last, in the middle");
        Bench bench = Bench.with("class [\\ _];lay #0;");
        run(bench.type("a"), 0, 1);
        run(bench.type(" "), 1, 1);
        run(bench.type(" a "), 1, 1, 3, 3);
        run(bench.type("a _b"), 0, 3, 3, 3, 4);
        run(bench.type("  _ "), 4, 4, 4, 4, 4);
        bench.type("                        ");
        for (int place = 0; place <= 24; place++) Bench.due("run(" + place + ")", bench.parses.run(place), 24);
        bench.work("swap 0 0;cut 23 1;type 23 'x';");
        Bench.due("run(0) ahead of the last", bench.parses.run(0), 23);
        Bench.due("run(23)", bench.parses.run(23), 23);
        Bench.due("run(24)", bench.parses.run(24), 24);
        Bench.edge(17, "P without a CLASS of lay");
        run(Bench.with("class [\\ ];").type("  "), 0, 1, 2);
        Bench.edge(17, "of a CLASS of no SIGNS, of all");
        run(Bench.with("class [];lay #0;").type("  "), 0, 1, 2);
        run(Bench.with("class ~[];lay #0;").type("ab~ "), 4, 4, 4, 4, 4);
        Bench.edge(17, "of the last lay alone");
        run(Bench.with("class [a];class [b];lay #0;lay #1;").type("ab"), 0, 2, 2);
        run(Bench.with("class [a];class [b];lay #1;lay #0;").type("ab"), 1, 1, 2);
    }

    private static void runRange() {
        Bench.edge(17, "of a place, or of the length; of no other");
        Bench empty = new Bench();
        Bench.due("run(0) of none", empty.parses.run(0), 0);
        empty.misses("run(1) of none", () -> empty.parses.run(1));
        empty.misses("run(-1) of none", () -> empty.parses.run(-1));
        Bench full = new Bench().type(FULL);
        Bench.due("run(23)", full.parses.run(23), 23);
        Bench.due("run(24)", full.parses.run(24), 24);
        full.misses("run(25)", () -> full.parses.run(25));
        full.misses("run(least)", () -> full.parses.run(Integer.MIN_VALUE));
        full.misses("run(greatest)", () -> full.parses.run(Integer.MAX_VALUE));
    }

    private static void is(Bench bench, int sort, int i, int j, boolean due) {
        Bench.due("is(" + sort + ", " + i + ", " + j + ") of " + bench.typed, bench.parses.is(sort, i, j), due);
    }

    /** Which pieces there are, of all from 0 on: "from to from to ..". */
    private static void pieces(Bench bench, int sort, int... due) {
        int length = bench.parses.told(8);
        for (int i = 0; i <= length; i++) {
            int ends = 0;
            for (int k = 0; k < due.length; k += 2) ends |= due[k] == i ? 1 << due[k + 1] : 0;
            Bench.due("ends(" + sort + ", " + i + ") of " + bench.typed, bench.parses.ends(sort, i), ends);
        }
    }

    private static void pieceRange() {
        Bench.edge(18, "i or j is not 0 to the length");
        Bench bench = Bench.with("token 0;token 7 'a';").type("ab");
        PrunedParses parses = bench.parses;
        is(bench, 0, 0, 0, true);
        is(bench, 0, 2, 2, true);
        is(bench, 7, 0, 1, true);
        is(bench, 0, 0, 2, false);
        int[][] bad = {{0, -1, 0}, {0, -1, -1}, {0, 0, 3}, {0, 3, 3}, {0, 0, -1}, {0, Integer.MIN_VALUE, 0}, {0, 0, Integer.MAX_VALUE}};
        for (int[] row : bad) bench.refuses("is" + row[1] + " " + row[2], () -> parses.is(row[0], row[1], row[2]));
        Bench.edge(18, "or j below i");
        is(bench, 0, 1, 1, true);
        bench.refuses("is(0, 1, 0)", () -> parses.is(0, 1, 0));
        bench.refuses("is(0, 2, 1)", () -> parses.is(0, 2, 1));
        Bench.edge(18, "no such SORT");
        is(bench, 6, 0, 1, false);
        bench.refuses("is(-1, 0, 0)", () -> parses.is(-1, 0, 0));
        bench.refuses("is(8, 0, 0)", () -> parses.is(8, 0, 0));
        Bench.edge(18, "of an empty TEXT, of a full one");
        Bench empty = Bench.with("token 0;");
        is(empty, 0, 0, 0, true);
        empty.refuses("is(0, 0, 1)", () -> empty.parses.is(0, 0, 1));
        Bench full = Bench.with("token 0 'abcdefgh' 'ijklmnop' 'qrstuvwx';token 1;").type(FULL);
        is(full, 0, 0, 24, true);
        is(full, 1, 24, 24, true);
        full.refuses("is(0, 0, 25)", () -> full.parses.is(0, 0, 25));
        full.refuses("is(1, 25, 25)", () -> full.parses.is(1, 25, 25));
    }

    private static void emptyPieces() {
        Bench.edge(18, "without EL: J is I");
        Bench bench = Bench.with("token 0;rule 1;token 2 @0 @1;rule 3 'a';").type("aa");
        pieces(bench, 0, 0, 0, 1, 1, 2, 2);
        pieces(bench, 1, 0, 0, 1, 1, 2, 2);
        pieces(bench, 2, 0, 0, 1, 1, 2, 2);
        pieces(bench, 3, 0, 1, 1, 2);
    }

    private static void words() {
        Bench.edge(18, "EL one behind the other, the last one ends at J: WORDS at the end of the TEXT");
        Bench bench = Bench.with("class [ab];token 0 'ab';token 1 #0;token 2 'abcdefgh';token 3 'ab' #0;token 4 #0 #0 #0 #0;token 5 'a' 'b' 'a' 'b';");
        pieces(bench.type("aab"), 0, 1, 3);
        pieces(bench, 1, 0, 1, 1, 2, 2, 3);
        pieces(bench, 3);
        pieces(bench, 4);
        pieces(bench.type("abab"), 3, 0, 3);
        pieces(bench, 4, 0, 4);
        pieces(bench, 5, 0, 4);
        pieces(bench.type("ababa"), 4, 0, 4, 1, 5);
        pieces(bench, 5, 0, 4);
        pieces(bench.type("abcdefg"), 2);
        pieces(bench.type("abcdefgh"), 2, 0, 8);
        pieces(bench.type("abcdefgi"), 2);
        pieces(bench.type("bbcdefgh"), 2);
        pieces(bench.type("zzzzzzzzzzzzzzzzabcdefgh"), 2, 16, 24);
        pieces(bench.type("zzzzzzzzzzzzzzzzzabcdefg"), 2);
    }

    private static void layout() {
        String grammar = "class [\\ ];lay #0;rule 0 'a' 'b';token 1 'a' 'b';rule 2 'a';rule 3 'a' 'b' 'c' 'd';rule 4 'a' #0 'b';rule 5 'a' #0;";
        Bench.edge(18, "each next one of a rule begins at the RUN: without layout, with one SIGN, with many");
        Bench bench = Bench.with(grammar);
        pieces(bench.type("ab"), 0, 0, 2);
        pieces(bench.type("a b"), 0, 0, 3);
        pieces(bench.type("a                      b"), 0, 0, 24);
        pieces(bench.type("a_b"), 0);
        pieces(bench.type("a bcd"), 3, 0, 5);
        pieces(bench.type("a  b c   d"), 3, 0, 10);
        pieces(bench.type("a  b c  _d"), 3);
        Bench.edge(18, "layout is not ahead of the first, nor behind the last");
        pieces(bench.type(" a b "), 0, 1, 4);
        pieces(bench.type(" a "), 2, 1, 2);
        Bench.edge(18, "of a token just there");
        pieces(bench.type("a b"), 1);
        pieces(bench.type("ab"), 1, 0, 2);
        Bench.edge(18, "all layout is passed over: none is left that could be an EL");
        pieces(bench.type("a b"), 4);
        pieces(bench.type("a  b"), 4);
        pieces(bench.type("a "), 5);
        Bench.edge(18, "without lay a rule is as a token");
        bench = Bench.with("class [\\ ];rule 0 'a' 'b';rule 4 'a' #0 'b';");
        pieces(bench.type("a b"), 0);
        pieces(bench.type("ab"), 0, 0, 2);
        pieces(bench.type("a b"), 4, 0, 3);
    }

    private static void layoutAndEmptyParts() {
        Bench.edge(18, "layout behind an empty EL, ahead of one, at the end of the TEXT");
        Bench bench = Bench.with("class [\\ ];lay #0;token 7;rule 0 @7 'a';rule 1 'a' @7;rule 2 @7 @7;rule 3 'a' @7 'a';rule 4 @7;");
        pieces(bench.type("  a"), 0, 0, 3, 1, 3, 2, 3);
        pieces(bench.type("a  "), 1, 0, 3);
        pieces(bench.type("a  b"), 1, 0, 3);
        pieces(bench.type("a"), 1, 0, 1);
        pieces(bench.type("  a"), 2, 0, 2, 1, 2, 2, 2, 3, 3);
        pieces(bench.type("a  a"), 3, 0, 4);
        pieces(bench.type("  "), 4, 0, 0, 1, 1, 2, 2);
    }

    private static void signsThatMayNotFollow() {
        Bench.edge(18, "no not of S has the SIGN at J in its CLASS, if there is one at J");
        Bench bench = Bench.with("class [b];token 0 'a';not 0 #0;token 1 'a';");
        pieces(bench.type("ab"), 0);
        pieces(bench, 1, 0, 1);
        pieces(bench.type("a"), 0, 0, 1);
        pieces(bench.type("aa"), 0, 0, 1, 1, 2);
        pieces(bench.type("acb"), 0, 0, 1);
        pieces(bench.type("aaaaaaaaaaaaaaaaaaaaaaab"), 0, 0, 1, 1, 2, 2, 3, 3, 4, 4, 5, 5, 6, 6, 7, 7, 8, 8, 9, 9, 10, 10, 11, 11, 12, 12, 13,
            13, 14, 14, 15, 15, 16, 16, 17, 17, 18, 18, 19, 19, 20, 20, 21, 21, 22);
        Bench.edge(18, "not: of a CLASS of no SIGNS, of all");
        bench = Bench.with("class [];class ~[];token 0 'a';not 0 #0;token 1 'a';not 1 #1;token 2;not 2 #1;");
        pieces(bench.type("aa"), 0, 0, 1, 1, 2);
        pieces(bench, 1, 1, 2);
        pieces(bench, 2, 2, 2);
        Bench.edge(18, "not: an empty PIECE, the SIGN at 0");
        bench = Bench.with("class [b];token 0;not 0 #0;");
        pieces(bench.type("bab"), 0, 1, 1, 3, 3);
        Bench.edge(18, "not: the first and the last of eight, of the last SORT");
        bench = Bench.with("class [b];class [c];class [d];not 7 #0;not 6 #1;not 6 #1;not 6 #1;not 6 #1;not 6 #1;not 6 #1;not 7 #2;token 7 'a';");
        pieces(bench.type("ab"), 7);
        pieces(bench.type("ac"), 7, 0, 1);
        pieces(bench.type("ad"), 7);
        Bench.edge(18, "not: behind the BODY of a QUOTE there is no SIGN");
        bench = Bench.with("class ~[];token 0 'a';not 0 #0;quote 1 0 '<>!';");
        is(bench.type("<a>"), 1, 0, 3, true);
        is(bench, 0, 1, 2, false);
        is(bench.type("<aa>"), 1, 0, 4, false);
    }

    private static void drops() {
        Bench.edge(18, "it is not OF any T that S drops: just that PIECE, neither shorter nor longer");
        Bench bench = Bench.with("class [a-z];token 0 #0;token 0 @0 #0;token 1 'if';drop 0 1;token 2 @0;");
        pieces(bench.type("if"), 1, 0, 2);
        // "if" goes; so does what would be made of it: 0 from 0 to 3 begins with 0 from 0 to 2.
        pieces(bench, 0, 0, 1, 1, 2);
        pieces(bench.type("iff"), 0, 0, 1, 1, 2, 1, 3, 2, 3);
        pieces(bench.type("fif"), 0, 0, 1, 0, 2, 0, 3, 1, 2, 2, 3);
        pieces(bench, 2, 0, 1, 0, 2, 0, 3, 1, 2, 2, 3);
        Bench.edge(18, "drops LAYER by LAYER: what is dropped may be dropped from");
        bench = Bench.with("token 0 'a';token 1 'a';token 2 'a';token 3 'a';token 4 'a';token 5 'a';token 6 'a';token 7 'a';"
            + "drop 0 1;drop 1 2;drop 2 3;drop 3 4;drop 4 5;drop 5 6;drop 6 7;").type("a");
        for (int sort = 0; sort < 8; sort++) is(bench, sort, 0, 1, sort % 2 == 1);
        Bench.edge(18, "drops: one of many is enough, of a SORT without PIECES none goes");
        bench = Bench.with("token 0 'a';token 0 'b';token 0 'c';token 1 'a';token 2 'b';drop 0 1;drop 0 2;drop 0 3;");
        pieces(bench.type("abc"), 0, 2, 3);
        Bench.edge(18, "drops: of the first SORT from the last, of the last from the first");
        bench = Bench.with("token 0 'a';token 7 'a';token 7 'b';drop 7 0;");
        pieces(bench.type("ab"), 7, 1, 2);
        bench = Bench.with("token 7 'a';token 0 'a';token 0 'b';drop 0 7;");
        pieces(bench.type("ab"), 0, 1, 2);
        Bench.edge(18, "drops: an empty PIECE");
        bench = Bench.with("token 0;token 0 'a';token 1;drop 0 1;token 2;token 2 'a';drop 2 3;token 3 'a';");
        pieces(bench.type("a"), 0, 0, 1);
        pieces(bench, 2, 0, 0, 1, 1);
        Bench.edge(18, "drops: of QUOTES, by QUOTES");
        bench = Bench.with("token 0;quote 1 0 '<>!';token 2 '<>';drop 1 2;quote 3 0 '<>!';token 4 '<>';token 4 'a';drop 4 3;");
        pieces(bench.type("<>a"), 1);
        pieces(bench, 4, 2, 3);
        pieces(bench.type("<<>"), 3, 1, 3);
    }

    private static void quotes() {
        Bench.edge(18, "By a QUOTE: the SIGN at I is OPEN, J is behind the first CLOSE");
        Bench bench = Bench.with("class ~[];token 0;token 0 @0 #0;quote 1 0 '<>!';");
        pieces(bench.type("<>"), 1, 0, 2);
        pieces(bench.type("<a>"), 1, 0, 3);
        pieces(bench.type("a<b>>"), 1, 1, 4);
        pieces(bench.type("<a><b>"), 1, 0, 3, 3, 6);
        pieces(bench.type("<<>>"), 1, 0, 3, 1, 3);
        pieces(bench.type("!<a>"), 1, 1, 4);
        Bench.edge(18, "By a QUOTE with OPEN like CLOSE");
        bench = Bench.with("class ~[];token 0;token 0 @0 #0;quote 1 0 '\"\"!';");
        pieces(bench.type("\"\""), 1, 0, 2);
        pieces(bench.type("\"\"\""), 1, 0, 2, 1, 3);
        pieces(bench.type("\"a!\"b\""), 1, 0, 6, 3, 6);
        pieces(bench.type("\""), 1);
        Bench.edge(18, "the BODY, a text of its own, is OF T as a whole");
        bench = Bench.with("token 0 'ab';quote 1 0 '<>!';token 2;quote 3 2 '<>!';quote 4 5 '<>!';");
        pieces(bench.type("<ab>"), 1, 0, 4);
        pieces(bench, 3);
        pieces(bench, 4);
        pieces(bench.type("<a>b>"), 1);
        pieces(bench.type("<aba>"), 1);
        pieces(bench.type("<bab>"), 1);
        pieces(bench.type("<>"), 1);
        pieces(bench, 3, 0, 2);
        Bench.edge(18, "the last QUOTE of four, of the last SORT");
        bench = Bench.with("quote 0 1 '[]!';quote 0 1 '[]!';quote 0 1 '[]!';quote 7 6 '<>!';token 6 'a';");
        pieces(bench.type("<a>"), 7, 0, 3);
        pieces(bench, 0);
        pieces(bench.type("[a]"), 7);
    }

    private static void quotesThatDoNotEnd() {
        Bench.edge(18, "no such CLOSE: it is none");
        Bench bench = Bench.with("class ~[];token 0;token 0 @0 #0;quote 1 0 '<>!';");
        pieces(bench.type("<"), 1);
        pieces(bench.type("<a"), 1);
        pieces(bench.type("<a!>"), 1);
        pieces(bench.type("a>"), 1);
        pieces(bench.type("><"), 1);
        Bench.edge(18, "ESCAPE as the last SIGN: it is none");
        pieces(bench.type("<a!"), 1);
        pieces(bench.type("<!"), 1);
        pieces(bench.type("<!!"), 1);
        pieces(bench.type("<!!>"), 1, 0, 4);
        Bench.edge(18, "a TEXT of 24 SIGNS: CLOSE is the last one, or is left out");
        pieces(bench.type("aaaaaaaaaaaaaaaaaaaaaa<>"), 1, 22, 24);
        pieces(bench.type("aaaaaaaaaaaaaaaaaaaaaaa<"), 1);
        pieces(bench.type("aaaaaaaaaaaaaaaaaaaaa<!>"), 1);
        pieces(bench.type("aaaaaaaaaaaaaaaaaaaaaa<!"), 1);
        bench.work("cut 23 1;");
        pieces(bench, 1);
        Bench.edge(18, "a CLOSE that was cut away is none");
        bench.type("<a>");
        bench.work("cut 2 1;");
        pieces(bench, 1);
        bench.type("<a!>>");
        bench.work("cut 4 1;");
        pieces(bench, 1);
    }

    private static void escapes() {
        Bench.edge(18, "ESCAPE and the SIGN behind it are that SIGN of the BODY, any SIGN");
        Bench bench = Bench.with("token 0 '>';token 0 '!';token 0 '<';token 0 'a';quote 1 0 '<>!';");
        for (String body : new String[] {"!>", "!!", "!<", "!a", "<", "a"}) {
            int length = body.length() + 2;
            is(bench.type("<" + body + ">"), 1, 0, length, true);
        }
        Bench.edge(18, "ESCAPE: of two of them the second one is a SIGN of the BODY");
        bench = Bench.with("token 0 '!>';token 0 '!!';quote 1 0 '<>!';");
        pieces(bench.type("<!!!>>"), 1, 0, 6);
        pieces(bench.type("<!!!!>"), 1, 0, 6);
        pieces(bench.type("<!!>>"), 1);
        Bench.edge(18, "an ESCAPE ahead of OPEN is no ESCAPE");
        bench = Bench.with("token 0 'a';quote 1 0 '<>!';quote 1 0 '!>?';");
        pieces(bench.type("!<a>"), 1, 1, 4);
        pieces(bench.type("!a>"), 1, 0, 3);
    }

    /** Four kinds of brackets: a text within texts needs no escapes. */
    private static final String NESTED = "token 0 'x';token 1;quote 0 0 '<>!';quote 0 0 '()!';quote 0 0 '{}!';quote 1 1 '[]!';";

    private static void bodiesWithinOthers() {
        Bench.edge(18, "a BODY within three others is OF nothing, one within two is");
        Bench bench = Bench.with(NESTED);
        String[] texts = {"x", "<x>", "<(x)>", "<({x})>"};
        for (int k = 0; k < 4; k++) is(bench.type(texts[k]), 0, 0, texts[k].length(), true);
        bench = Bench.with("token 0 'x';quote 0 0 '<>!';quote 0 0 '()!';quote 0 0 '{}!';quote 0 0 '[]!';");
        is(bench.type("<({[x]})>"), 0, 0, 9, false);
        is(bench, 0, 1, 8, true);
        is(bench, 0, 2, 7, true);
        is(bench, 0, 3, 6, true);
        is(bench.type("({[<x>]})"), 0, 0, 9, false);
        is(bench, 0, 1, 8, true);
        Bench.edge(18, "a BODY within three others: an empty one, too");
        bench = Bench.with("token 0;quote 0 0 '<>!';quote 0 0 '()!';quote 0 0 '{}!';quote 0 0 '[]!';");
        is(bench.type("<({})>"), 0, 0, 6, true);
        is(bench.type("<({[]})>"), 0, 0, 8, false);
        is(bench, 0, 1, 7, true);
        Bench.edge(18, "a BODY within three others may be a PIECE of what is no BODY");
        bench = Bench.with("class ~[];token 0;token 0 @0 #0;quote 1 0 '<>!';quote 1 1 '()!';quote 1 1 '{}!';quote 1 1 '[]!';");
        is(bench.type("(<a>)"), 1, 0, 5, true);
        is(bench.type("[(<a>)]"), 1, 0, 7, true);
        is(bench.type("{[(<a>)]}"), 1, 0, 9, false);
        is(bench, 0, 0, 9, true);
        is(bench, 1, 1, 8, true);
    }

    private static void longBodies() {
        Bench.edge(18, "a BODY of 22 SIGNS, of 11 that are escaped");
        Bench bench = Bench.with("class ~[];token 0;token 0 @0 #0;quote 1 0 '<>!';");
        is(bench.type("<aaaaaaaaaaaaaaaaaaaaaa>"), 1, 0, 24, true);
        is(bench.type("<!>!>!>!>!>!>!>!>!>!>!>>"), 1, 0, 24, true);
        is(bench.type("<aaaaaaaaaaaaaaaaaaaaa!>"), 1, 0, 24, false);
        Bench.edge(18, "many bodies that differ by one SIGN, or by their length");
        bench = Bench.with("token 0 'a' @0;token 0 'b';quote 1 0 '<>!';");
        for (int k = 0; k < 22; k++) {
            is(bench.type("<" + Bench.times("a", k) + "b>"), 1, 0, k + 3, true);
        }
        bench = Bench.with("token 0 'a' @0;token 0 'b';quote 1 0 '<>!';");
        for (int k = 0; k < 21; k++) {
            is(bench.type("<" + Bench.times("a", k) + "c>"), 1, 0, k + 3, false);
        }
    }

    private static void likeBodies() {
        Bench.edge(18, "two bodies that differ by one SIGN, at each of 22 places");
        String twentyTwo = Bench.times("a", 22);
        for (int k = 0; k < 22; k++) {
            Bench bench = Bench.with("class [a];token 0 #0;token 0 @0 #0;quote 1 0 '<>!';");
            is(bench.type("<" + twentyTwo + ">"), 1, 0, 24, true);
            is(bench.type("<" + twentyTwo.substring(0, k) + "b" + twentyTwo.substring(k + 1) + ">"), 1, 0, 24, false);
            is(bench.type("<" + twentyTwo.substring(k) + ">"), 1, 0, 24 - k, true);
            is(bench.type("<" + twentyTwo + ">"), 1, 0, 24, true);
        }
        // Each bit of a SIGN tells it from another one.
        for (char sign : "`ceiqA!".toCharArray()) {
            for (int k = 0; k < 22; k += 3) {
                Bench bench = Bench.with("class [a];token 0 #0;token 0 @0 #0;quote 1 0 '<>?';");
                is(bench.type("<" + twentyTwo + ">"), 1, 0, 24, true);
                is(bench.type("<" + twentyTwo.substring(0, k) + sign + twentyTwo.substring(k + 1) + ">"), 1, 0, 24, false);
            }
        }
        Bench.edge(18, "the same BODY within none, within one, within two others");
        Bench bench = Bench.with("token 0 'x';quote 0 0 '<>!';quote 0 0 '()!';quote 0 0 '{}!';quote 0 0 '[]!';");
        bench.type("([x])<({[x]})>");
        is(bench, 0, 0, 5, true);
        is(bench, 0, 5, 14, false);
        is(bench, 0, 6, 13, true);
        is(bench.type("<({[x]})>([x])"), 0, 0, 9, false);
        is(bench, 0, 9, 14, true);
        is(bench, 0, 10, 13, true);
        Bench.edge(18, "many more bodies than are kept");
        bench = Bench.with("class ~[x];token 0;token 0 @0 #0;quote 1 0 '<>!';quote 1 0 '()!';");
        for (int seed = 0; seed < 40; seed++) bench.parses.year(seed, 24, 3);
        bench.type("<(ab)(cd)(ef)(xg)>(hij)");
        is(bench, 1, 0, 18, false);
        is(bench, 1, 1, 5, true);
        is(bench, 1, 13, 17, false);
        is(bench, 1, 18, 23, true);
    }

    private static void leastSets() {
        Bench.edge(18, "the least sets of PIECES: what comes of itself alone is none");
        Bench bench = Bench.with("token 0 @0;token 1 @2;token 2 @1;token 3 @3 @3;token 4 @4;token 4 'a';token 5 @5 @5;token 5;").type("aa");
        for (int sort = 0; sort < 4; sort++) pieces(bench, sort);
        pieces(bench, 4, 0, 1, 1, 2);
        pieces(bench, 5, 0, 0, 1, 1, 2, 2);
        Bench.edge(18, "through all SORTS at one place, whichever is told first");
        bench = Bench.with("token 0 @1;token 1 @2;token 2 @3;token 3 @4;token 4 @5;token 5 @6;token 6 @7;token 7 'a';token 7 @0 'a';").type("aaa");
        pieces(bench, 0, 0, 1, 0, 2, 0, 3, 1, 2, 1, 3, 2, 3);
        bench = Bench.with("token 7 @0 'a';token 7 'a';token 6 @7;token 5 @6;token 4 @5;token 3 @4;token 2 @3;token 1 @2;token 0 @1;").type("aaa");
        pieces(bench, 0, 0, 1, 0, 2, 0, 3, 1, 2, 1, 3, 2, 3);
        Bench.edge(18, "a PIECE of 24 that comes of itself 24 times");
        bench = Bench.with("token 0 @0 'a';token 0;token 1 'a' @1;token 1;").type(Bench.times("a", 24));
        is(bench, 0, 0, 24, true);
        is(bench, 1, 0, 24, true);
        is(bench, 0, 24, 24, true);
    }

    private static void endsRange() {
        Bench.edge(19, "begin at i (0 to the length)");
        Bench bench = Bench.with("token 0;token 7 'b';").type("ab");
        Bench.due("ends(0, 0)", bench.parses.ends(0, 0), 1);
        Bench.due("ends(0, 2)", bench.parses.ends(0, 2), 4);
        Bench.due("ends(7, 1)", bench.parses.ends(7, 1), 4);
        bench.refuses("ends(0, -1)", () -> bench.parses.ends(0, -1));
        bench.refuses("ends(0, 3)", () -> bench.parses.ends(0, 3));
        bench.refuses("ends(0, greatest)", () -> bench.parses.ends(0, Integer.MAX_VALUE));
        bench.refuses("ends(0, least)", () -> bench.parses.ends(0, Integer.MIN_VALUE));
        Bench.edge(19, "no such SORT");
        bench.refuses("ends(-1, 0)", () -> bench.parses.ends(-1, 0));
        bench.refuses("ends(8, 0)", () -> bench.parses.ends(8, 0));
        Bench empty = Bench.with("token 0;");
        Bench.due("ends(0, 0) of none", empty.parses.ends(0, 0), 1);
        empty.refuses("ends(0, 1) of none", () -> empty.parses.ends(0, 1));
    }

    private static void manyEnds() {
        Bench.edge(19, "Places (bits): none, all from 0 to 24");
        Bench bench = Bench.with("class ~[];token 0;token 0 @0 #0;").type(FULL);
        for (int i = 0; i <= 24; i++) {
            Bench.due("ends(0, " + i + ")", bench.parses.ends(0, i), (1 << 25) - (1 << i));
            Bench.due("ends(1, " + i + ")", bench.parses.ends(1, i), 0);
        }
    }

    private static void ways(Bench bench, int sort, int i, int j, int due) {
        Bench.due("ways(" + sort + ", " + i + ", " + j + ") of " + bench.typed, bench.parses.ways(sort, i, j), due);
    }

    private static void waysRange() {
        Bench.edge(20, "i, j, the SORT out of range");
        Bench bench = Bench.with("token 0;token 7 'ab';").type("ab");
        PrunedParses parses = bench.parses;
        ways(bench, 0, 0, 0, 1);
        ways(bench, 0, 2, 2, 1);
        ways(bench, 7, 0, 2, 1);
        int[][] bad = {{-1, 0, 0}, {8, 0, 0}, {0, -1, 0}, {0, 0, -1}, {0, 0, 3}, {0, 3, 3}, {0, 2, 1}, {0, 1, 0}};
        for (int[] row : bad) bench.refuses("ways" + row[0] + " " + row[1] + " " + row[2], () -> parses.ways(row[0], row[1], row[2]));
    }

    private static void fewWays() {
        Bench.edge(20, "0: it is not OF the SORT, though there are PRODUCTIONS by which it would be");
        Bench bench = Bench.with("class [b];token 0 'a';not 0 #0;token 1 'a';token 2 'a';drop 1 2;token 3;").type("ab");
        ways(bench, 0, 0, 1, 0);
        ways(bench, 1, 0, 1, 0);
        ways(bench, 2, 0, 1, 1);
        ways(bench, 3, 0, 1, 0);
        Bench.edge(20, "by how many PRODUCTIONS: alike ones are two; all 20");
        bench = Bench.with("token 0 'a';token 0 'a';rule 0 'a';").type("a");
        ways(bench, 0, 0, 1, 3);
        bench = Bench.with(Bench.times("token 0'a';", 20)).type("a");
        ways(bench, 0, 0, 1, 20);
        Bench.edge(20, "and by how many QUOTES, that end there: all four");
        bench = Bench.with("token 1;quote 0 1 '<>!';quote 0 1 '<>?';quote 0 1 '<>+';quote 0 1 '<>-';token 0 '<>';").type("<>");
        ways(bench, 0, 0, 2, 5);
        bench = Bench.with("class ~[];token 1;token 1 @1 #0;quote 0 1 '<>!';quote 0 1 '<]!';quote 2 1 '<>!';").type("<>]");
        ways(bench, 0, 0, 2, 1);
        ways(bench, 0, 0, 3, 1);
        bench.type("a<>]<>");
        ways(bench, 0, 1, 3, 1);
        ways(bench, 2, 4, 6, 1);
        ways(bench, 0, 1, 4, 1);
        Bench.edge(20, "each with each row of places at which its EL begin and end");
        bench = Bench.with("class ~[];token 0;token 0 @0 #0;token 1 @0 @0;token 2 @0;token 3 @0 @0 @0;token 4 @0 @0 @0 @0;token 5 @0 'a' @0;token 6 @7 @7;token 7;");
        bench.type("a");
        int[] one = {1, 2, 1, 3, 4, 1, 0, 0};
        for (int sort = 0; sort < 8; sort++) ways(bench, sort, 0, 1, one[sort]);
        int[] none = {1, 1, 1, 1, 1, 0, 1, 1};
        for (int sort = 0; sort < 8; sort++) ways(bench, sort, 1, 1, none[sort]);
        bench.type("aaa");
        int[] three = {1, 4, 1, 10, 20, 3, 0, 0};
        for (int sort = 0; sort < 8; sort++) ways(bench, sort, 0, 3, three[sort]);
        Bench.edge(20, "a PIECE that comes of itself counts that row, too");
        bench = Bench.with("token 0 'a';token 0 @0;token 1;token 1 @1 @1;").type("a");
        ways(bench, 0, 0, 1, 2);
        ways(bench, 1, 0, 0, 2);
        Bench.edge(20, "layout: rows that begin elsewhere");
        bench = Bench.with("class [\\ ];lay #0;token 1;token 1 @1 #0;rule 0 @1 'a';").type("  a");
        ways(bench, 0, 0, 3, 3);
        ways(bench, 0, 2, 3, 1);
    }

    /** 4 EL: 2,925 rows of places from 0 to 24; 3: 325; 2: 25; 'a' between two: 24; 'aa' between two: 23. */
    private static Bench manyWays(String more) {
        return Bench.with("class ~[];token 0;token 0 @0#0;" + Bench.times("token 1@0@0@0@0;", 3) + Bench.times("token 1@0@0@0;", 3)
            + Bench.times("token 1@0@0;", 9) + more).type(Bench.times("a", 24));
    }

    private static void manyWays() {
        Bench.edge(20, "9,999 at most: 9,998, 9,999, 10,000");
        ways(manyWays(""), 1, 0, 24, 9975);
        ways(manyWays("token 1@0'aa'@0;"), 1, 0, 24, 9998);
        ways(manyWays("token 1@0'a'@0;"), 1, 0, 24, 9999);
        ways(manyWays("token 1@0'a'@0;token 1@0;"), 1, 0, 24, 9999);
        ways(manyWays("token 1@0@0@0@0;"), 1, 0, 24, 9999);
        Bench.edge(20, "9,999 at most: far more");
        Bench bench = Bench.with("class ~[];token 0;token 0@0#0;" + Bench.times("token 1@0@0@0@0;", 18)).type(Bench.times("a", 24));
        ways(bench, 1, 0, 24, 9999);
        ways(bench, 1, 0, 0, 18);
        ways(bench, 1, 0, 1, 72);
        ways(bench, 1, 0, 12, 18 * 455);
        ways(bench, 1, 0, 13, 9999);
        Bench.edge(20, "WAYS of the parts are not counted, just the rows");
        bench = Bench.with("token 0;token 0 @0 @0;token 0 'a';token 1 @0;").type("aaaa");
        ways(bench, 0, 0, 4, 5);
        ways(bench, 1, 0, 4, 1);
    }
}
