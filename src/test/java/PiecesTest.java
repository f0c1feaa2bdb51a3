/** Promises 16 to 30: the text, its pieces, their ways, heights and trees, what they are worth, what is wrong. */
public final class PiecesTest {
    /** Letters, blanks as layout; names (4, 0) with keywords (1) taken from them; phrases (2); quotes of phrases (3). */
    private static final String PHRASES = "class [a-z];class [\\ ];token 4 #0;token 4 @4 #0;token 0 @4;not 0 #0;"
        + "token 1 'if';not 1 #0;drop 0 1;rule 2 @1 @0;rule 2 @0;rule 2 @2 ',' @2;quote 3 2 '<>!';rule 2 @3;lay #1;";

    public static void main(String[] args) {
        signsAndRuns();
        parts();
        layout();
        leftAndMiddle();
        notAndDrop();
        quotes();
        quotesWithinQuotes();
        ways();
        heights();
        trees();
        manyNodes();
        worths();
        piecesAndCommonest();
        wrongs();
        deepWrongs();
        bodies();
        fits();
        refusals();
        Bench.close("PiecesTest");
    }

    private static void is(Bench bench, int sort, int i, int j, boolean due) {
        Bench.due("is(" + sort + ", " + i + ", " + j + ")", bench.parses.is(sort, i, j), due);
        int ends = bench.parses.ends(sort, i);
        Bench.due("ends(" + sort + ", " + i + ") at " + j, (ends >>> j & 1) == 1, due);
    }

    private static void ends(Bench bench, int sort, int i, int... places) {
        int bits = 0;
        for (int place : places) bits |= 1 << place;
        Bench.due("ends(" + sort + ", " + i + ")", bench.parses.ends(sort, i), bits);
    }

    private static void signsAndRuns() {
        Bench bench = Bench.with("class [\\ ];class [_];lay #1;lay #0;").type(" a  b ");
        PrunedParses parses = bench.parses;
        int[] runs = {1, 1, 4, 4, 4, 6, 6};
        for (int place = 0; place < runs.length; place++) Bench.due("run(" + place + ")", parses.run(place), runs[place]);
        for (int place = 0; place < 6; place++) Bench.due("sign(" + place + ")", parses.sign(place), " a  b ".charAt(place));
        bench.misses("sign(6)", () -> parses.sign(6));
        bench.misses("sign(-1)", () -> parses.sign(-1));
        bench.misses("run(7)", () -> parses.run(7));
        bench.misses("run(-1)", () -> parses.run(-1));
        bench.type("                        ");
        Bench.due("run(0) of 24", parses.run(0), 24);
        Bench.due("run(24) of 24", parses.run(24), 24);
        bench.work("cut 1 23;");
        Bench.due("run(0) of 1", parses.run(0), 1);
        Bench without = Bench.with("class [\\ ];").type("   ");
        for (int place = 0; place <= 3; place++) Bench.due("run without lay", without.parses.run(place), place);
    }

    private static void parts() {
        Bench bench = Bench.with("class [ab];token 0 #0;token 1 'ab';token 2 'ab' #0 'c';token 3;token 4 @3 #0 @3;token 5 @0 @1;")
            .type("abacb");
        ends(bench, 0, 0, 1);
        ends(bench, 0, 3);
        ends(bench, 0, 4, 5);
        ends(bench, 0, 5);
        ends(bench, 1, 0, 2);
        ends(bench, 1, 4);
        ends(bench, 2, 0, 4);
        for (int i = 0; i <= 5; i++) ends(bench, 3, i, i);
        ends(bench, 4, 2, 3);
        ends(bench, 5, 0);
        bench.type("aabab");
        ends(bench, 5, 0, 3);
        ends(bench, 5, 2, 5);
        is(bench, 2, 0, 0, false);
    }

    private static void layout() {
        Bench bench = Bench.with("class [\\ ];lay #0;rule 0 'a' 'b';token 1 'a' 'b';rule 2 @3 'b';rule 3;rule 4 'a' @3;token 5 'a' @4;"
            + "rule 6 'a' #0 'b';").type(" a  b a");
        ends(bench, 0, 1, 5);
        ends(bench, 0, 0);
        ends(bench, 1, 1);
        // The empty part ends at once, and layout comes behind it.
        ends(bench, 2, 2, 5);
        ends(bench, 2, 4, 5);
        ends(bench, 4, 1, 4);
        ends(bench, 4, 6, 7);
        // All layout is passed over: no blank is left that could be a part.
        ends(bench, 6, 1);
        bench.type("ab");
        ends(bench, 0, 0, 2);
        ends(bench, 1, 0, 2);
    }

    private static void leftAndMiddle() {
        Bench bench = Bench.with("token 0 'a';token 0 @0 'a';token 1 '(' @1 ')';token 1;token 2 @2 @2;token 2 @1;token 3 @4;token 4 @3;")
            .type("aaa");
        ends(bench, 0, 0, 1, 2, 3);
        ends(bench, 0, 2, 3);
        ends(bench, 3, 0);
        bench.type("(())()");
        ends(bench, 1, 0, 0, 4);
        ends(bench, 1, 1, 1, 3);
        ends(bench, 2, 0, 0, 4, 6);
        bench.type("aaaaaaaaaaaaaaaaaaaaaaaa");
        Bench.due("ends(0, 0) of 24", bench.parses.ends(0, 0), 0x1fffffe);
        Bench.due("told(7) of 24", bench.parses.told(7), 1);
    }

    private static void notAndDrop() {
        Bench bench = Bench.with(PHRASES).type("if ab,c");
        ends(bench, 0, 0);
        ends(bench, 1, 0, 2);
        ends(bench, 4, 0, 1, 2);
        ends(bench, 0, 1, 2);
        ends(bench, 0, 3, 5);
        ends(bench, 2, 0, 5, 7);
        ends(bench, 2, 3, 5, 7);
        bench.type("iff if");
        ends(bench, 0, 0, 3);
        ends(bench, 1, 0);
        ends(bench, 1, 4, 6);
        ends(bench, 0, 4);
        // A drop from what dropped: 3 is what 2 is not, so what 1 is.
        bench = Bench.with("class [ab];token 1 'a';token 2 #0;drop 2 1;token 3 #0;drop 3 2;drop 3 4;token 4 'ab';quote 3 1 'b!c';");
        bench.type("ab");
        ends(bench, 2, 0);
        ends(bench, 2, 1, 2);
        ends(bench, 3, 0, 1);
        ends(bench, 3, 1);
        // A SIGN at place 0 may not follow what is empty ahead of it; SORT 0 can be dropped.
        bench = Bench.with("class [x];token 1;not 1 #0;token 0;token 0 'a';drop 2 0;token 2;token 2 'a';token 2 'ax';").type("xaxx");
        ends(bench, 1, 0);
        ends(bench, 1, 1, 1);
        ends(bench, 1, 4, 4);
        ends(bench, 2, 1, 3);
        ends(bench, 2, 0);
        // What bars a PIECE bars the QUOTES of its SORT, too; and each not of it counts.
        bench = Bench.with("class [x];class [y];quote 0 1 '()!';token 1;token 1 #0;not 0 #0;not 0 #1;quote 2 1 '()!';drop 2 3;token 3 '(x)';");
        bench.type("()x()y()()");
        ends(bench, 0, 0);
        ends(bench, 0, 3);
        ends(bench, 0, 6, 8);
        ends(bench, 0, 8, 10);
        bench.type("(x)()");
        ends(bench, 0, 0, 3);
        ends(bench, 2, 0);
        ends(bench, 2, 3, 5);
    }

    private static void quotes() {
        Bench bench = Bench.with("class [a-z<>!];token 0;token 0 @0 #0;quote 1 0 '<>!';quote 2 0 '\"\"!';");
        bench.type("<a>b>");
        ends(bench, 1, 0, 3);
        ends(bench, 0, 0, 0, 1, 2, 3, 4, 5);
        bench.type("<a!>b>");
        ends(bench, 1, 0, 6);
        bench.type("<!!>");
        ends(bench, 1, 0, 4);
        bench.type("<a!>");
        ends(bench, 1, 0);
        bench.type("<a>!");
        ends(bench, 1, 0, 3);
        bench.type("<a!");
        ends(bench, 1, 0);
        bench.type("<<>>");
        ends(bench, 1, 0, 3);
        ends(bench, 1, 1, 3);
        bench.type("<>");
        ends(bench, 1, 0, 2);
        bench.type("\"a\"b\"");
        ends(bench, 2, 0, 3);
        ends(bench, 2, 2, 5);
        ends(bench, 2, 4);
        bench.type("<A>");
        ends(bench, 1, 0);
        // A CLOSE that is gone does not end it; an ESCAPE may be the last of 24.
        bench.type("<a>");
        bench.work("cut 2 1;");
        ends(bench, 1, 0);
        bench.type("aaaaaaaaaaaaaaaaaaaa<aa!");
        ends(bench, 1, 20);
        Bench.due("body(0, 20)", bench.parses.body(0, 20), -1);
    }

    /** Four kinds of brackets, so that a text within texts needs no escapes. */
    private static Bench nested() {
        return Bench.with("token 0 'x';quote 0 0 '<>!';quote 0 0 '()!';quote 0 0 '{}!';quote 0 0 '[]!';");
    }

    private static void quotesWithinQuotes() {
        Bench bench = nested();
        String[] texts = {"x", "<x>", "<(x)>", "<({x})>", "<({[x]})>"};
        for (int k = 0; k < texts.length; k++) {
            bench.type(texts[k]);
            // A body within three others is of nothing, so the fourth bracket holds nothing.
            is(bench, 0, 0, texts[k].length(), k < 4);
        }
        is(bench, 0, 1, 8, true);
        bench.type("<<x!>>");
        is(bench, 0, 0, 6, true);
        is(bench, 0, 1, 6, false);
    }

    private static void ways() {
        Bench bench = Bench.with("rule 0 'a';rule 0 @0 @0;rule 0 'a' 'a';token 1;token 1 @1 @1 @1;quote 2 1 '()!';quote 2 1 '()?';"
            + "token 2 '(' ')';token 2 @2;class [\\ ];lay #0;rule 3 @4 @4 'b';token 4;token 4 @4 #0;").type("aaaa");
        PrunedParses parses = bench.parses;
        Bench.due("ways(0, 0, 1)", parses.ways(0, 0, 1), 1);
        Bench.due("ways(0, 0, 2)", parses.ways(0, 0, 2), 2);
        Bench.due("ways(0, 0, 4)", parses.ways(0, 0, 4), 3);
        Bench.due("ways(0, 0, 0)", parses.ways(0, 0, 0), 0);
        Bench.due("ways(1, 2, 2)", parses.ways(1, 2, 2), 2);
        bench.type("()");
        Bench.due("ways(2, 0, 2)", parses.ways(2, 0, 2), 4);
        bench.type("a()()");
        Bench.due("ways(2, 3, 5)", parses.ways(2, 3, 5), 4);
        Bench.due("ways(2, 1, 3)", parses.ways(2, 1, 3), 4);
        Bench.due("ways(1, 1, 1)", parses.ways(1, 1, 1), 2);
        Bench other = Bench.with("quote 0 1 '()!';quote 1 1 '()!';token 1;token 0 '()';").type("()");
        Bench.due("ways(0, 0, 2) by one of two QUOTES", other.parses.ways(0, 0, 2), 2);
        // 4 from 0 ends at 0, 1, 2, and layout takes the next one to 2: three rows; from there it is empty.
        bench.type("  b");
        Bench.due("ways(3, 0, 3)", parses.ways(3, 0, 3), 3);
        Bench big = Bench.with("token 0;token 0 'a';token 0 @0 @0;token 1 @0 @0 @0 @0;token 1 @0 @0 @0 @0;token 1 @0 @0 @0 @0;"
            + "token 1 @0 @0 @0 @0;").type("aaaaaaaaaaaaaaaaaaaaaaaa");
        Bench.due("ways(0, 0, 24)", big.parses.ways(0, 0, 24), 25);
        // Rows of three places from 0 to 24, in their order: 2925; four PRODUCTIONS have 11700.
        Bench.due("ways(1, 0, 24)", big.parses.ways(1, 0, 24), 9999);
        Bench three = Bench.with("token 0;token 0 'a';token 0 @0 @0;token 1 @0 @0 @0 @0;token 1 @0 @0 @0 @0;token 1 @0 @0 @0 @0;")
            .type("aaaaaaaaaaaaaaaaaaaaaaaa");
        Bench.due("ways(1, 0, 24) by three", three.parses.ways(1, 0, 24), 8775);
    }

    private static void heights() {
        Bench bench = Bench.with(PHRASES).type("if ab,c");
        PrunedParses parses = bench.parses;
        Bench.due("height(1, 0, 2)", parses.height(1, 0, 2), 1);
        Bench.due("height(4, 3, 4)", parses.height(4, 3, 4), 1);
        Bench.due("height(4, 3, 5)", parses.height(4, 3, 5), 2);
        Bench.due("height(0, 3, 5)", parses.height(0, 3, 5), 3);
        Bench.due("height(2, 3, 5)", parses.height(2, 3, 5), 4);
        Bench.due("height(2, 0, 5)", parses.height(2, 0, 5), 4);
        Bench.due("height(2, 0, 7)", parses.height(2, 0, 7), 5);
        Bench.due("height(0, 0, 2)", parses.height(0, 0, 2), -1);
        // The least by any way: a long way round is told first; an empty part is of HEIGHT 1; a QUOTE is of 1.
        bench = Bench.with("token 0 @1;token 1 @2;token 2 'a';token 0 @3 'a';token 3;quote 1 4 'aab';token 4 @5;token 5;");
        bench.type("a");
        Bench.due("height(0, 0, 1)", bench.parses.height(0, 0, 1), 2);
        Bench.due("height(3, 0, 0)", bench.parses.height(3, 0, 0), 1);
        Bench.due("height(1, 0, 1)", bench.parses.height(1, 0, 1), 2);
        bench.type("aa");
        Bench.due("height(1, 0, 2)", bench.parses.height(1, 0, 2), 1);
        Bench.due("height(0, 0, 2)", bench.parses.height(0, 0, 2), 2);
    }

    private static void node(Bench bench, int sort, int k, int... due) {
        for (int what = 0; what < 6; what++) {
            Bench.due("node(" + sort + ", " + k + ", " + what + ")", bench.parses.node(sort, k, what), due.length == 0 ? -1 : due[what]);
        }
    }

    private static void trees() {
        Bench bench = Bench.with(PHRASES).type("if ab,c");
        Bench.due("nodes(2, 0, 7)", bench.parses.nodes(2, 0, 7), 9);
        node(bench, 2, 0, 2, 0, 7, 5, 1, 0);
        node(bench, 2, 1, 2, 0, 5, 4, 1, 1);
        node(bench, 2, 2, 1, 0, 2, 1, 1, 2);
        node(bench, 2, 3, 0, 3, 5, 3, 1, 2);
        node(bench, 2, 4, 4, 3, 5, 2, 1, 3);
        node(bench, 2, 5, 4, 3, 4, 1, 1, 4);
        node(bench, 2, 6, 2, 6, 7, 3, 1, 1);
        node(bench, 2, 7, 0, 6, 7, 2, 1, 2);
        node(bench, 2, 8, 4, 6, 7, 1, 1, 3);
        node(bench, 2, 9);
        node(bench, 0, 0);
        Bench.due("nodes(0, 0, 7)", bench.parses.nodes(0, 0, 7), 0);
        Bench.due("nodes(4, 3, 5)", bench.parses.nodes(4, 3, 5), 2);
        Bench.due("nodes(4, 4, 5)", bench.parses.nodes(4, 4, 5), 1);
        Bench.due("nodes(0, 3, 5)", bench.parses.nodes(0, 3, 5), 3);
        Bench.due("nodes(2, 3, 5)", bench.parses.nodes(2, 3, 5), 4);
        Bench.due("nodes(2, 3, 7)", bench.parses.nodes(2, 3, 7), 8);
        Bench.due("nodes(2, 6, 7)", bench.parses.nodes(2, 6, 7), 3);
        node(bench, 2, 0, 2, 0, 7, 5, 1, 0);
        // The first production by which it has its HEIGHT, not the first one; each part ends as early as can be.
        bench = Bench.with("token 0 @1;token 1 @2;token 2 @3;token 3;token 0 @4 @4 @4;token 4;token 4 'a';token 4 'aa';token 0 'b' @3 'b';");
        bench.type("aa");
        Bench.due("nodes(0, 0, 2)", bench.parses.nodes(0, 0, 2), 4);
        node(bench, 0, 0, 0, 0, 2, 2, 6, 0);
        node(bench, 0, 1, 4, 0, 0, 1, 1, 1);
        node(bench, 0, 2, 4, 0, 0, 1, 1, 1);
        node(bench, 0, 3, 4, 0, 2, 1, 1, 1);
        // The part may not be as high as the whole, else it would end earlier.
        bench = Bench.with("token 0 'a';token 0 'b';token 0 @0 @0;token 0 'bc' @0;class [x];").type("aabc");
        node(bench, 0, 0);
        bench.type("abca");
        Bench.due("nodes(0, 0, 4)", bench.parses.nodes(0, 0, 4), 4);
        node(bench, 0, 1, 0, 0, 1, 1, 1, 1);
        node(bench, 0, 2, 0, 1, 4, 2, 1, 1);
        node(bench, 0, 3, 0, 3, 4, 1, 1, 2);
        bench.type("aaaa");
        node(bench, 0, 0, 0, 0, 4, 3, 3, 0);
        node(bench, 0, 1, 0, 0, 2, 2, 1, 1);
        node(bench, 0, 4, 0, 2, 4, 2, 1, 1);
        bench = Bench.with("token 0;token 0 @0 'a';").type("a");
        Bench.due("nodes(0, 0, 1)", bench.parses.nodes(0, 0, 1), 2);
        Bench.due("nodes(0, 0, 0)", bench.parses.nodes(0, 0, 0), 1);
        Bench.due("nodes(0, 1, 1)", bench.parses.nodes(0, 1, 1), 1);
        // QUOTES come behind PRODUCTIONS of the same HEIGHT, and have no parts.
        bench = Bench.with("quote 0 1 '()!';token 1 'a';token 0 '(' @1 ')';").type("(a)");
        Bench.due("nodes by a QUOTE", bench.parses.nodes(0, 0, 3), 1);
        node(bench, 0, 0, 0, 0, 3, 1, 2, 0);
    }

    private static void manyNodes() {
        Bench bench = Bench.with("token 0 @1 @1 @1 @1;token 1 @2 @2 @2 @2;token 2 @3 @3 @3 @3;token 3 @4 @4 @4;token 4;");
        Bench.due("nodes(4, 0, 0)", bench.parses.nodes(4, 0, 0), 1);
        Bench.due("nodes(2, 0, 0)", bench.parses.nodes(2, 0, 0), 17);
        Bench.due("nodes(1, 0, 0)", bench.parses.nodes(1, 0, 0), 69);
        Bench.due("nodes(0, 0, 0)", bench.parses.nodes(0, 0, 0), 200);
        Bench.due("node(0, 199, 5)", bench.parses.node(0, 199, 5), 4);
        Bench.due("node(0, 200, 5)", bench.parses.node(0, 200, 5), -1);
        Bench.due("worth(0)", bench.parses.worth(0), 200);
        Bench.due("node(1, 68, 0)", bench.parses.node(1, 68, 0), 4);
        Bench.due("node(1, 69, 0)", bench.parses.node(1, 69, 0), -1);
    }

    private static void worth(Bench bench, String law, int due) {
        Bench.due("law " + law, bench.law(law), 1);
        Bench.due("worth by " + law, bench.parses.worth(0), due);
    }

    private static void worths() {
        // Nodes: 0 from 0 to 3, HEIGHT 2, WAYS 3, deep 0; 1 from 1 to 3, HEIGHT 1, WAYS 1, deep 1.
        Bench bench = Bench.with("token 0 'a' @1;token 1 'aa';token 0 'a' @1;token 0 @1 @2;token 2 'a';").type("aaa");
        Bench.due("worth without a law", bench.parses.worth(0), 2);
        worth(bench, "sort", 1);
        worth(bench, "from", 1);
        worth(bench, "to", 6);
        worth(bench, "high", 3);
        worth(bench, "ways", 4);
        worth(bench, "deep", 1);
        worth(bench, "10-2-3", 10);
        worth(bench, "2+3*4", 28);
        worth(bench, "(2+3)*4", 40);
        worth(bench, "100/7/2", 14);
        worth(bench, "100%7*2", 8);
        worth(bench, "7/0", 0);
        worth(bench, "7%0", 0);
        worth(bench, "(0-7)/2", -6);
        worth(bench, "(0-7)%3", -2);
        worth(bench, "7%(0-3)", 2);
        worth(bench, "least[high,ways]", 3);
        worth(bench, "most[high,ways]", 4);
        worth(bench, "least[0-1,1]", -2);
        worth(bench, "999*999*999*999", 2 * (999 * 999 * 999 * 999));
        worth(bench, "(999*999*999+999*999*999+0)*(1-deep)", 2 * 999 * 999 * 999);
        bench.lawFault("1+", 1, 2);
        Bench.due("worth behind a fault", bench.parses.worth(0), 2 * 999 * 999 * 999);
        bench.type("aa");
        Bench.due("worth of what is not", bench.parses.worth(0), 0);
        bench.type("aaa");
        bench.grammar("token 0 'a';");
        bench.type("a");
        Bench.due("worth behind another grammar", bench.parses.worth(0), 1);
        // The least number, divided by -1, wraps to itself.
        String least = "(0-256*256*256*128)";
        worth(bench, least + "/(0-1)", Integer.MIN_VALUE);
        worth(bench, least + "%(0-1)", 0);
        worth(bench, least + "-1", Integer.MAX_VALUE);
    }

    private static void piecesAndCommonest() {
        Bench bench = Bench.with("token 1 'a';token 2 'a';token 3 @3 'a';token 3;token 4;").type("aab");
        int[] due = {0, 2, 2, 7, 4};
        for (int sort = 0; sort < due.length; sort++) Bench.due("pieces(" + sort + ")", bench.parses.pieces(sort), due[sort]);
        Bench.due("commonest(0)", bench.parses.commonest(0), 3);
        Bench.due("commonest(1)", bench.parses.commonest(1), 7);
        bench.refuses("commonest(2)", () -> bench.parses.commonest(2));
        bench.refuses("commonest(-1)", () -> bench.parses.commonest(-1));
        bench.type("b");
        Bench.due("commonest(0) of alike ones", bench.parses.commonest(0), 3);
        Bench.due("commonest(1) of alike ones", bench.parses.commonest(1), 2);
    }

    private static void reasons(Bench bench, int sort, int... due) {
        for (int k = 0; k <= due.length / 3; k++) {
            for (int what = 0; what < 3; what++) {
                int at = k * 3 + what;
                Bench.due("wrong(" + sort + ", " + k + ", " + what + ")", bench.parses.wrong(sort, k, what), at < due.length ? due[at] : -1);
            }
        }
    }

    private static void wrongs() {
        Bench bench = Bench.with("class [a];token 0 'a';token 0 @0 'a';quote 1 0 '<>!';quote 1 2 '<}!';quote 2 0 '()!';token 3 @1;token 3 @3 'c';")
            .type("aaba");
        reasons(bench, 0, 2, 0, 4);
        reasons(bench, 1, 0, 1, 4);
        bench.type("aa");
        reasons(bench, 0);
        reasons(bench, 3, 0, 3, 2);
        // The body b of the second QUOTE that ends is not of 0; the first one's is. No matter of which SORT it is.
        bench.type("<a>(b)");
        reasons(bench, 3, 3, 3, 6, 0, 0, 1);
        // At one place the QUOTE with the lower number tells the cause, if its body is wrong.
        bench.type("<b>b}");
        reasons(bench, 1, 0, 1, 5, 0, 0, 1);
        bench.type("<b}b>");
        reasons(bench, 1, 0, 1, 5, 0, 0, 3);
        bench.type("<a>c}");
        reasons(bench, 0, 0, 0, 5, 0, 2, 3);
        // Within (b): it begins as a QUOTE of 2, and its own body is wrong.
        bench.type("<(b)}");
        reasons(bench, 1, 0, 1, 5, 0, 2, 3, 0, 0, 1);
        bench.type("<aab>");
        reasons(bench, 1, 0, 1, 5, 2, 0, 3);
    }

    private static void deepWrongs() {
        Bench bench = nested();
        bench.type("<({[x]})>");
        // The body x is within three others: it is of nothing, but tells no cause.
        reasons(bench, 0, 0, 0, 9, 0, 0, 7, 0, 0, 5, 0, 0, 3);
        bench.type("<({[y]})>");
        reasons(bench, 0, 0, 0, 9, 0, 0, 7, 0, 0, 5, 0, 0, 3);
        bench.type("<({y})>");
        reasons(bench, 0, 0, 0, 7, 0, 0, 5, 0, 0, 3, 0, 0, 1);
        bench.type("<({x}y)>");
        reasons(bench, 0, 0, 0, 8, 0, 0, 6, 3, 0, 4);
        bench.type("<({x})>");
        reasons(bench, 0);
    }

    private static void body(Bench bench, int quote, int place, String due) {
        String name = "(" + quote + ", " + place + ")";
        Bench.due("body" + name, bench.parses.body(quote, place), due == null ? -1 : due.length());
        int length = due == null ? 0 : due.length();
        for (int k = 0; k <= length; k++) {
            Bench.due("inside" + name + " " + k, bench.parses.inside(quote, place, k), k < length ? due.charAt(k) : -1);
        }
    }

    private static void bodies() {
        Bench bench = Bench.with("quote 0 1 '<>!';quote 2 3 '\"\"<';").type("<a!>!!b>\"<\"\"<");
        body(bench, 0, 0, "a>!b");
        body(bench, 0, 1, null);
        body(bench, 0, 9, null);
        body(bench, 1, 8, "\"");
        body(bench, 1, 10, "");
        body(bench, 1, 11, null);
        PrunedParses parses = bench.parses;
        bench.misses("body(2, 0)", () -> parses.body(2, 0));
        bench.misses("body(-1, 0)", () -> parses.body(-1, 0));
        bench.misses("body(0, 13)", () -> parses.body(0, 13));
        bench.misses("body(0, -1)", () -> parses.body(0, -1));
        bench.misses("inside(2, 0, 0)", () -> parses.inside(2, 0, 0));
        bench.misses("inside(0, 13, -1)", () -> parses.inside(0, 13, -1));
        bench.misses("inside(0, -1, -1)", () -> parses.inside(0, -1, -1));
        bench.refuses("inside(0, 0, -1)", () -> parses.inside(0, 0, -1));
        bench.refuses("inside(0, 1, -1)", () -> parses.inside(0, 1, -1));
    }

    private static void fit(Bench bench, int sort, int place, int many, int least, int group) {
        String name = "fits(" + sort + ", " + place + ", ";
        Bench.due(name + "0)", bench.parses.fits(sort, place, 0), many);
        Bench.due(name + "1)", bench.parses.fits(sort, place, 1), least);
        Bench.due(name + "2)", bench.parses.fits(sort, place, 2), group);
    }

    private static void fits() {
        Bench bench = Bench.with("class [];class [b];class [a-c];class [abc];class ~[];token 0 #2;token 0 @0 ',' @0;token 1 #4 'z';"
            + "quote 2 0 '<>!';token 3 'no';not 4 #1;token 4 #2;token 5 @4 #2;").type("a.b");
        fit(bench, 0, 1, 1, ',', -1);
        fit(bench, 0, 0, 0, -1, -1);
        Bench first = Bench.with("class [p-r];class [p-r];token 0 #1;").type("x");
        fit(first, 0, 0, 3, 'p', 0);
        Bench named = Bench.with("token 0 'a' ',';class [xy];token 1 #0;token 1 'q' @1 'z';").type("a;");
        fit(named, 0, 1, 1, ',', -1);
        fit(named, 0, 0, 0, -1, -1);
        named.type("qaz");
        fit(named, 1, 1, 2, 'x', 0);
        fit(named, 1, 2, 0, -1, -1);
        named.type("qxx");
        fit(named, 1, 2, 1, 'z', -1);
        bench.type("a,b");
        fit(bench, 0, 0, 3, 'a', 2);
        fit(bench, 0, 1, 1, ',', -1);
        fit(bench, 3, 0, 0, -1, -1);
        bench.type("xz");
        fit(bench, 1, 0, 95, 32, 4);
        fit(bench, 1, 1, 1, 'z', -1);
        bench.type("nO");
        fit(bench, 3, 1, 1, 'o', -1);
        bench.type("<x>");
        fit(bench, 2, 1, 3, 'a', 2);
        fit(bench, 2, 2, 0, -1, -1);
        bench.type("<a>");
        fit(bench, 2, 0, 1, '<', -1);
        fit(bench, 2, 2, 1, '>', -1);
        // A sign that may not follow what stands ahead of it.
        bench.type("aa");
        fit(bench, 5, 1, 2, 'a', -1);
        fit(bench, 5, 0, 3, 'a', 2);
        Bench.due("told(7) behind fits", bench.parses.told(7), 1 << 5);
        PrunedParses parses = bench.parses;
        bench.misses("fits(9, 2, 9)", () -> parses.fits(9, 2, 9));
        bench.misses("fits(0, -1, 0)", () -> parses.fits(0, -1, 0));
        bench.refuses("fits(8, 0, 0)", () -> parses.fits(8, 0, 0));
        bench.refuses("fits(-1, 0, 0)", () -> parses.fits(-1, 0, 0));
        bench.refuses("fits(0, 0, 3)", () -> parses.fits(0, 0, 3));
        bench.refuses("fits(0, 0, -1)", () -> parses.fits(0, 0, -1));
    }

    private static void refusals() {
        Bench bench = Bench.with("token 0 'a';").type("aa");
        PrunedParses parses = bench.parses;
        int[][] pieces = {{-1, 0, 0}, {8, 0, 0}, {0, -1, 0}, {0, 0, 3}, {0, 3, 3}, {0, 2, 1}, {0, -1, -1}, {0, 0, -1}};
        for (int[] piece : pieces) {
            String name = "(" + piece[0] + ", " + piece[1] + ", " + piece[2] + ")";
            bench.refuses("is" + name, () -> parses.is(piece[0], piece[1], piece[2]));
            bench.refuses("ways" + name, () -> parses.ways(piece[0], piece[1], piece[2]));
            bench.refuses("height" + name, () -> parses.height(piece[0], piece[1], piece[2]));
            bench.refuses("nodes" + name, () -> parses.nodes(piece[0], piece[1], piece[2]));
        }
        int[][] others = {{-1, 0, 0}, {8, 0, 0}, {0, -1, 0}, {0, 0, -1}};
        for (int[] row : others) {
            String name = "(" + row[0] + ", " + row[1] + ", " + row[2] + ")";
            bench.refuses("node" + name, () -> parses.node(row[0], row[1], row[2]));
            bench.refuses("wrong" + name, () -> parses.wrong(row[0], row[1], row[2]));
        }
        bench.refuses("node(0, 0, 6)", () -> parses.node(0, 0, 6));
        bench.refuses("wrong(0, 0, 3)", () -> parses.wrong(0, 0, 3));
        for (int sort = -1; sort < 9; sort += 9) {
            int asked = sort;
            bench.refuses("ends(" + sort + ", 0)", () -> parses.ends(asked, 0));
            bench.refuses("worth(" + sort + ")", () -> parses.worth(asked));
            bench.refuses("pieces(" + sort + ")", () -> parses.pieces(asked));
        }
        bench.refuses("ends(0, 3)", () -> parses.ends(0, 3));
        bench.refuses("ends(0, -1)", () -> parses.ends(0, -1));
        Bench.due("ends(0, 2)", parses.ends(0, 2), 0);
        Bench.due("node far behind", parses.node(0, Integer.MAX_VALUE, 0), -1);
        Bench.due("wrong far behind", parses.wrong(0, Integer.MAX_VALUE, 0), -1);
    }
}
