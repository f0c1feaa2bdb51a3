/** Promises 9 to 15: what is told of a grammar, its classes, productions and sorts. */
public final class GrammarTest {
    public static void main(String[] args) {
        tellings();
        nothingStaysOfOthers();
        groups();
        algebra();
        neighbours();
        productions();
        layers();
        emptiness();
        beginnings();
        needs();
        Bench.close("GrammarTest");
    }

    private static void tellings() {
        Bench bench = Bench.with("class [a];class [b];rule 0 #0;token 1 @0;rule 2;quote 3 0 'abc';"
            + "not 0 #1;not 0 #1;not 1 #0;drop 2 0;drop 2 0;drop 4 2;drop 4 0;lay #0;lay #1;");
        PrunedParses parses = bench.parses;
        int[] due = {2, 3, 1, 3, 4, 1, 2, 4, 0, 0};
        for (int what = 0; what < due.length; what++) Bench.due("told(" + what + ")", parses.told(what), due[what]);
        bench.refuses("told(-1)", () -> parses.told(-1));
        bench.refuses("told(10)", () -> parses.told(10));
        bench.grammar("rule 0 'a';rule 5 @0;quote 7 0 'aab';");
        Bench.due("told(0) behind another grammar", parses.told(0), 0);
        Bench.due("told(5) behind another grammar", parses.told(5), -1);
        bench.type("a");
        Bench.due("told(7) of a", parses.told(7), 1 | 1 << 5);
        bench.type("aaa");
        Bench.due("told(7) of aaa", parses.told(7), 0);
        bench.type("abaa");
        Bench.due("told(7) of abaa", parses.told(7), 1 << 7);
        bench.grammarFault("rule 0 'a'", 1, 10, 0);
        Bench.due("told(1) behind a fault", parses.told(1), 2);
        Bench.due("told(8) behind a fault", parses.told(8), 4);
    }

    /** Grammars one behind the other: each is told as if it were the first one. */
    private static void nothingStaysOfOthers() {
        String[] grammars = {"class [x];rule 0 'a' @1 #0;rule 1;rule 1 'b' @2;quote 2 1 '<>!';not 1 #0;drop 3 0;drop 0 4;lay #0;token 3 @0;",
            "class [y];rule 1 #0;", "rule 4 @5 'c';rule 5;drop 4 2;", "", "class [a-z];token 0 #0;quote 1 0 '()!';"};
        Bench bench = new Bench();
        for (int round = 0; round < 15; round++) {
            // An object is used for 512 calls at most.
            if (round % 5 == 0) bench = new Bench();
            String grammar = grammars[(round / 5 + round * 2) % 5];
            bench.grammar(grammar);
            Bench fresh = Bench.with(grammar);
            bench.type("(x)");
            fresh.type("(x)");
            for (int what = 0; what < 10; what++) {
                Bench.due("told(" + what + ") of " + grammar, bench.parses.told(what), fresh.parses.told(what));
            }
            for (int sort = 0; sort < 8; sort++) {
                for (int what = 0; what < 6; what++) {
                    Bench.due("sort(" + sort + ", " + what + ") of " + grammar, bench.parses.sort(sort, what), fresh.parses.sort(sort, what));
                }
                Bench.due("pieces(" + sort + ") of " + grammar, bench.parses.pieces(sort), fresh.parses.pieces(sort));
                Bench.due("fits(" + sort + ", 1, 0) of " + grammar, bench.parses.fits(sort, 1, 0), fresh.parses.fits(sort, 1, 0));
            }
        }
        // A body is of another sort by another grammar.
        bench = new Bench();
        bench.grammar("token 0 'x';quote 1 0 '()!';");
        bench.type("(x)");
        Bench.due("is(1, 0, 3)", bench.parses.is(1, 0, 3), true);
        bench.grammar("token 0 'y';quote 1 0 '()!';");
        bench.type("(x)");
        Bench.due("is(1, 0, 3) by another grammar", bench.parses.is(1, 0, 3), false);
    }

    private static void group(Bench bench, int k, int many, int least, int greatest, int stretches) {
        Bench.due("group(" + k + ", 0)", bench.parses.group(k, 0), many);
        Bench.due("group(" + k + ", 1)", bench.parses.group(k, 1), least);
        Bench.due("group(" + k + ", 2)", bench.parses.group(k, 2), greatest);
        Bench.due("group(" + k + ", 3)", bench.parses.group(k, 3), stretches);
    }

    private static void groups() {
        Bench bench = Bench.with("class [];class ~#0;class [\\ ];class [~];class [acegikmoqsuwy];class [\\^-\\`_];");
        group(bench, 0, 0, -1, -1, 0);
        group(bench, 1, 95, 32, 126, 1);
        group(bench, 2, 1, 32, 32, 1);
        group(bench, 3, 1, 126, 126, 1);
        group(bench, 4, 13, 'a', 'y', 13);
        // 94 to 96 lie on both sides of the middle of the row of SIGNS.
        group(bench, 5, 3, '^', '`', 1);
        PrunedParses parses = bench.parses;
        Bench.due("holds(1, 32)", parses.holds(1, 32), true);
        Bench.due("holds(1, 126)", parses.holds(1, 126), true);
        Bench.due("holds(4, 'b')", parses.holds(4, 'b'), false);
        Bench.due("holds(4, 'c')", parses.holds(4, 'c'), true);
        Bench.due("holds(5, '_')", parses.holds(5, '_'), true);
        Bench.due("holds(5, 'a')", parses.holds(5, 'a'), false);
        bench.misses("group(6, 9)", () -> parses.group(6, 9));
        bench.misses("group(-1, 0)", () -> parses.group(-1, 0));
        bench.refuses("group(0, 4)", () -> parses.group(0, 4));
        bench.refuses("group(0, -1)", () -> parses.group(0, -1));
        bench.misses("holds(6, 0)", () -> parses.holds(6, 0));
        bench.refuses("holds(0, 31)", () -> parses.holds(0, 31));
        bench.refuses("holds(0, 127)", () -> parses.holds(0, 127));
    }

    private static void algebra() {
        Bench bench = Bench.with("class [a-e]-[b]|[b]&[b-z];class [a-e]-([b]|[b]&[b-z]);class ~[\\ -~]|[x];"
            + "class ~[a]&[a-c];class ~([a]&[a-c])&[a-c];class [']|[\\]]|[[];class [a-c]-~[b];class [0-9]-[5];");
        group(bench, 0, 4, 'b', 'e', 1);
        group(bench, 1, 4, 'a', 'e', 2);
        group(bench, 2, 1, 'x', 'x', 1);
        group(bench, 3, 2, 'b', 'c', 1);
        group(bench, 4, 2, 'b', 'c', 1);
        group(bench, 5, 3, '\'', ']', 3);
        group(bench, 6, 1, 'b', 'b', 1);
        group(bench, 7, 9, '0', '9', 2);
    }

    private static void neighbours() {
        Bench bench = Bench.with("class [];class [];class [a-c];class [ab]|[c];"
            + "class [b];class [c-d];class [x];");
        int[][] due = {{0, 1, 1}, {0, 0, 1}, {0, 2, 0}, {2, 0, 0}, {2, 3, 1}, {4, 2, 2}, {2, 4, 3}, {2, 5, 4}, {5, 3, 4},
            {2, 6, 0}, {6, 6, 1}};
        for (int[] row : due) Bench.due("beside(" + row[0] + ", " + row[1] + ")", bench.parses.beside(row[0], row[1]), row[2]);
        bench.misses("beside(7, 0)", () -> bench.parses.beside(7, 0));
        bench.misses("beside(0, 7)", () -> bench.parses.beside(0, 7));
        bench.misses("beside(-1, 0)", () -> bench.parses.beside(-1, 0));
        bench.misses("beside(0, -1)", () -> bench.parses.beside(0, -1));
    }

    private static void productions() {
        Bench bench = Bench.with("rule 3;token 7 'a' @1;quote 0 0 'abc';rule 0 @1 @1 @1 @1;");
        int[][] due = {{3, 1, 0}, {7, 0, 2}, {0, 1, 4}};
        for (int k = 0; k < due.length; k++) {
            for (int what = 0; what < 3; what++) {
                Bench.due("production(" + k + ", " + what + ")", bench.parses.production(k, what), due[k][what]);
            }
        }
        bench.misses("production(3, 9)", () -> bench.parses.production(3, 9));
        bench.misses("production(-1, 0)", () -> bench.parses.production(-1, 0));
        bench.refuses("production(0, 3)", () -> bench.parses.production(0, 3));
        bench.refuses("production(0, -1)", () -> bench.parses.production(0, -1));
    }

    private static void layers() {
        Bench bench = Bench.with("drop 6 5;drop 5 4;drop 4 3;drop 3 2;drop 2 1;drop 1 0;rule 7 @6;");
        int[] due = {0, 1, 2, 3, 4, 5, 6, 6};
        for (int sort = 0; sort < 8; sort++) Bench.due("sort(" + sort + ", 0)", bench.parses.sort(sort, 0), due[sort]);
        Bench.due("told(6)", bench.parses.told(6), 6);
        bench = Bench.with("drop 0 1;rule 2 @3;rule 3 @2 @0;quote 4 3 'abc';drop 5 4;rule 5 @6;");
        int[] more = {1, 0, 1, 1, 1, 2, 0, 0};
        for (int sort = 0; sort < 8; sort++) Bench.due("sort(" + sort + ", 0) again", bench.parses.sort(sort, 0), more[sort]);
        Bench.due("told(6) again", bench.parses.told(6), 2);
        PrunedParses parses = bench.parses;
        bench.refuses("sort(8, 0)", () -> parses.sort(8, 0));
        bench.refuses("sort(-1, 0)", () -> parses.sort(-1, 0));
        bench.refuses("sort(0, 6)", () -> parses.sort(0, 6));
        bench.refuses("sort(0, -1)", () -> parses.sort(0, -1));
    }

    private static void emptiness() {
        // 0 by a chain told backward; 4 not, its part is a quote; 5 whatever not and drop say; 6 needs itself.
        Bench bench = Bench.with("class [];rule 0 @1 @2;token 1 @2;rule 2;rule 3 @0 'a';quote 4 2 'abc';rule 5 @2;not 5 #0;"
            + "drop 5 7;rule 7;rule 6 @6;");
        int[] due = {1, 1, 1, 0, 0, 1, 0, 1};
        for (int sort = 0; sort < 8; sort++) Bench.due("sort(" + sort + ", 1)", bench.parses.sort(sort, 1), due[sort]);
    }

    private static void begins(Bench bench, int sort, String signs) {
        Bench.due("sort(" + sort + ", 2)", bench.parses.sort(sort, 2), signs.length());
        Bench.due("sort(" + sort + ", 3)", bench.parses.sort(sort, 3), signs.isEmpty() ? -1 : signs.charAt(0));
        for (int sign = 32; sign < 127; sign++) {
            Bench.due("begins(" + sort + ", " + sign + ")", bench.parses.begins(sort, sign), signs.indexOf(sign) >= 0);
        }
    }

    private static void beginnings() {
        String grammar = "class [x];class [];class [\\ ];lay #2;rule 0 @1 @2 'c' 'd';rule 1 @1 'b';rule 1;rule 2 #0;rule 2;"
            + "token 3 #1 'a';quote 4 0 '<>!';rule 4 @3;rule 5 @4 @0;rule 6 @7;rule 7 @5;not 4 #0;drop 7 3;";
        Bench bench = Bench.with(grammar);
        begins(bench, 0, "bcx");
        begins(bench, 1, "b");
        begins(bench, 2, "x");
        begins(bench, 3, "");
        bench = Bench.with(grammar);
        begins(bench, 4, "<");
        begins(bench, 5, "<");
        begins(bench, 6, "<");
        begins(bench, 7, "<");
        Bench other = Bench.with(grammar);
        other.refuses("begins(8, 32)", () -> other.parses.begins(8, 32));
        other.refuses("begins(-1, 32)", () -> other.parses.begins(-1, 32));
        other.refuses("begins(0, 31)", () -> other.parses.begins(0, 31));
        other.refuses("begins(0, 127)", () -> other.parses.begins(0, 127));
    }

    private static void needs() {
        Bench bench = Bench.with("rule 0 @1 'a' @2;quote 0 3 'abc';drop 1 4;rule 4 @5;rule 5 @5;token 6 @7;token 7 @6;");
        int[] uses = {1 << 1 | 1 << 2 | 1 << 3, 0, 0, 0, 1 << 5, 1 << 5, 1 << 7, 1 << 6};
        int[] needs = {1 << 1 | 1 << 2 | 1 << 3 | 1 << 4 | 1 << 5, 1 << 4 | 1 << 5, 0, 0, 1 << 5, 1 << 5,
            1 << 6 | 1 << 7, 1 << 6 | 1 << 7};
        for (int sort = 0; sort < 8; sort++) {
            Bench.due("sort(" + sort + ", 4)", bench.parses.sort(sort, 4), uses[sort]);
            Bench.due("sort(" + sort + ", 5)", bench.parses.sort(sort, 5), needs[sort]);
        }
    }
}
