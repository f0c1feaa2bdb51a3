/** Boundary cases of promises 9 to 15: what is told of a grammar; both sides of each. */
public final class GrammarEdgesTest {
    private static final String ALL_SIGNS = " !\"#$%&'()*+,-./0123456789:;<=>?@ABCDEFGHIJKLMNOPQRSTUVWXYZ[\\]^_`abcdefghijklmnopqrstuvwxyz{|}~";

    public static void main(String[] args) {
        whatIsTold();
        howMany();
        layTold();
        sortsOfTheText();
        refusedSteps();
        groups();
        groupRange();
        algebra();
        holding();
        neighbours();
        productions();
        sortRange();
        layers();
        emptiness();
        beginnings();
        howManyBegin();
        usesAndNeeds();
        beginsRange();
        Bench.closeEdges("GrammarEdgesTest", 9, 15);
    }

    private static void told(Bench bench, int what, int due) {
        Bench.due("told(" + what + ")", bench.parses.told(what), due);
    }

    private static void whatIsTold() {
        Bench.edge(9, "another what");
        Bench bench = Bench.with("rule 0;");
        told(bench, 0, 0);
        told(bench, 9, 0);
        bench.refuses("told(-1)", () -> bench.parses.told(-1));
        bench.refuses("told(10)", () -> bench.parses.told(10));
        bench.refuses("told(least)", () -> bench.parses.told(Integer.MIN_VALUE));
        bench.refuses("told(greatest)", () -> bench.parses.told(Integer.MAX_VALUE));
        Bench.edge(9, "8 the length of the TEXT: none, one, 23, 24");
        for (int length : new int[] {0, 1, 23, 24}) told(new Bench().type(ALL_SIGNS.substring(0, length)), 8, length);
    }

    private static void howMany() {
        Bench.edge(9, "0 to 4 how many: none, one, all there may be");
        Bench bench = new Bench();
        for (int what = 0; what < 5; what++) told(bench, what, 0);
        String[] one = {"class[a];", "rule0;", "quote0 0'abc';", "class[a];not0#0;", "drop0 1;"};
        for (int what = 0; what < 5; what++) told(Bench.with(one[what]), what, 1);
        told(Bench.with("token0;"), 1, 1);
        Bench full = Bench.with(Bench.times("class[a];", 8) + Bench.times("rule0;", 20) + Bench.times("quote0 0'abc';", 4)
            + Bench.times("not0#7;", 8) + Bench.times("drop0 7;", 8));
        int[] due = {8, 20, 4, 8, 8};
        for (int what = 0; what < 5; what++) told(full, what, due[what]);
        Bench.edge(9, "6 the greatest LAYER: 0, 1, 7");
        told(Bench.with("rule 7 @6;rule 6 @7;"), 6, 0);
        told(Bench.with("drop 7 6;"), 6, 1);
        told(Bench.with("drop 0 1;drop 1 2;drop 2 3;drop 3 4;drop 4 5;drop 5 6;drop 6 7;"), 6, 7);
        told(Bench.with("drop 7 6;drop 6 5;drop 5 4;drop 4 3;drop 3 2;drop 2 1;drop 1 0;"), 6, 7);
        told(Bench.with("drop 0 1;drop 2 3;drop 4 5;drop 6 7;"), 6, 1);
    }

    private static void layTold() {
        Bench.edge(9, "5 the CLASS of lay: NONE, the first, the last");
        told(new Bench(), 5, -1);
        told(Bench.with("class[a];"), 5, -1);
        told(Bench.with("class[a];lay#0;"), 5, 0);
        told(Bench.with(Bench.times("class[a];", 8) + "lay#0;lay#7;"), 5, 7);
        told(Bench.with(Bench.times("class[a];", 8) + "lay#7;lay#0;"), 5, 0);
    }

    private static void sortsOfTheText() {
        Bench.edge(9, "7 SORTS that the whole TEXT is OF: none, the first, the last, all");
        told(new Bench(), 7, 0);
        told(Bench.with("token 0;"), 7, 1);
        told(Bench.with("token 7;"), 7, 128);
        String all = "token 0 'a';token 1 'a';token 2 'a';token 3 'a';token 4 'a';token 5 'a';token 6 'a';token 7 'a';";
        told(Bench.with(all), 7, 0);
        told(Bench.with(all).type("a"), 7, 255);
        told(Bench.with(all).type("aa"), 7, 0);
        told(Bench.with(all).type("b"), 7, 0);
        Bench.edge(9, "7 of a TEXT of 24 SIGNS");
        Bench bench = Bench.with("token 0 'abcdefgh';token 1 @0 @0 @0;token 2 @0 @0;").type("abcdefghabcdefghabcdefgh");
        told(bench, 7, 2);
        bench.work("cut 23 1;");
        told(bench, 7, 0);
        bench.work("cut 16 7;");
        told(bench, 7, 4);
    }

    private static void refusedSteps() {
        Bench.edge(9, "9 STEPS REFUSED by the latest WORK: 0 ahead of any, none, one, all 200");
        Bench bench = new Bench();
        told(bench, 9, 0);
        bench.step("type 0 'a';", 1, 0, "a");
        bench.step("cut 0 1;cut 0 1;", 1, 1, "");
        bench.step("again 40[cut 0 1;cut 0 1;cut 0 1;cut 0 1;cut 0 1;];", 0, 199, "");
        bench.step(Bench.times("cut 0 1;", 18), 0, 18, "");
        Bench.edge(9, "9 is 0 behind a WORK of none that were REFUSED");
        bench.step("", 0, 0, "");
        Bench.edge(9, "9 stays behind a WORK with a FAULT, and behind one that told -20");
        bench.step("cut 0 1;cut 0 1;cut 0 1;", 0, 3, "");
        bench.workFault("cut 0 1;cut", 1, 11, 1);
        told(bench, 9, 3);
        while (bench.parses.count(2) < 16) bench.work("cut 0 1;");
        bench.work("cut 0 1;cut 0 1;");
        told(bench, 9, 1);
        Bench.edge(9, "9 behind grammar(): 0 without a FAULT, else as it was");
        bench.grammarFault("rule", 1, 4, 0);
        told(bench, 9, 1);
        bench.refuses("grammar(1)", () -> bench.parses.grammar(1));
        told(bench, 9, 1);
        bench.grammar("");
        told(bench, 9, 0);
        Bench.edge(9, "9 behind undo(): as it was behind -1, else 0");
        bench.work("cut 0 1;cut 0 1;");
        bench.parses.undo();
        told(bench, 9, 0);
        bench.parses.image();
        bench.work("cut 0 1;cut 0 1;");
        told(bench, 9, 2);
        bench.parses.image();
        told(bench, 9, 2);
        bench.parses.undo();
        told(bench, 9, 0);
        bench.parses.undo();
        told(bench, 9, 0);
        Bench.edge(9, "9 behind restore(): as it was behind -1, else 0");
        bench.work("cut 0 1;cut 0 1;");
        bench.parses.restore();
        told(bench, 9, 0);
        bench.work("cut 0 1;");
        told(bench, 9, 1);
        bench.parses.restore();
        told(bench, 9, 0);
        Bench.due("undo()", bench.parses.undo(), -1);
        bench.work("cut 0 1;");
        Bench.due("restore()", bench.parses.restore(), -1);
        told(bench, 9, 1);
        Bench none = new Bench();
        none.work("cut 0 1;");
        none.parses.image();
        none.parses.undo();
        none.parses.restore();
        none.parses.undo();
        none.parses.undo();
        told(none, 9, 0);
    }

    private static void group(Bench bench, int k, int... due) {
        for (int what = 0; what < 4; what++) Bench.due("group(" + k + ", " + what + ")", bench.parses.group(k, what), due[what]);
    }

    /** What stands in [ ] for these SIGNS. */
    private static String escaped(String signs) {
        StringBuilder text = new StringBuilder();
        for (char sign : signs.toCharArray()) {
            if ("\\]- ".indexOf(sign) >= 0) text.append('\\');
            text.append(sign);
        }
        return text.toString();
    }

    private static void groups() {
        Bench.edge(10, "how many SIGNS, the least, the greatest: NONE both without");
        Bench bench = Bench.with("class [];class [\\ ];class [~];class [\\ ~];class [\\ -~];class ~[];class ~[\\ -~];class [!-}];");
        group(bench, 0, 0, -1, -1, 0);
        group(bench, 1, 1, 32, 32, 1);
        group(bench, 2, 1, 126, 126, 1);
        group(bench, 3, 2, 32, 126, 2);
        group(bench, 4, 95, 32, 126, 1);
        group(bench, 5, 95, 32, 126, 1);
        group(bench, 6, 0, -1, -1, 0);
        group(bench, 7, 93, 33, 125, 1);
        Bench.edge(10, "how many stretches: 0, 1, 2, as many as can be");
        StringBuilder even = new StringBuilder();
        for (int sign = 32; sign <= 126; sign += 2) even.append((char) sign);
        bench = Bench.with("class [" + escaped(even.toString()) + "];class ~#0;class [ab];class [ac];class [a-cb-d];class [ca];class [\\ -\\]];class [_-~];");
        group(bench, 0, 48, 32, 126, 48);
        group(bench, 1, 47, 33, 125, 47);
        group(bench, 2, 2, 'a', 'b', 1);
        group(bench, 3, 2, 'a', 'c', 2);
        group(bench, 4, 4, 'a', 'd', 1);
        group(bench, 5, 2, 'a', 'c', 2);
        group(bench, 6, 62, 32, 93, 1);
        group(bench, 7, 32, 95, 126, 1);
        Bench.edge(10, "stretches in the middle of the row of SIGNS");
        bench = Bench.with("class [_-`];class [^`];class [_];class [`];class ~[_];class ~[`];class ~[_`];");
        group(bench, 0, 2, 95, 96, 1);
        group(bench, 1, 2, 94, 96, 2);
        group(bench, 2, 1, 95, 95, 1);
        group(bench, 3, 1, 96, 96, 1);
        group(bench, 4, 94, 32, 126, 2);
        group(bench, 5, 94, 32, 126, 2);
        group(bench, 6, 93, 32, 126, 2);
    }

    private static void groupRange() {
        Bench.edge(10, "no such CLASS");
        Bench none = new Bench();
        none.misses("group(0, 0)", () -> none.parses.group(0, 0));
        Bench full = Bench.with(Bench.times("class[a];", 8));
        Bench.due("group(0, 0)", full.parses.group(0, 0), 1);
        Bench.due("group(7, 0)", full.parses.group(7, 0), 1);
        full.misses("group(8, 0)", () -> full.parses.group(8, 0));
        full.misses("group(-1, 0)", () -> full.parses.group(-1, 0));
        full.misses("group(greatest, 0)", () -> full.parses.group(Integer.MAX_VALUE, 0));
        Bench.edge(10, "another what");
        Bench.due("group(0, 3)", full.parses.group(0, 3), 1);
        full.refuses("group(0, 4)", () -> full.parses.group(0, 4));
        full.refuses("group(0, -1)", () -> full.parses.group(0, -1));
        Bench.edge(10, "NoSuchElementException ahead of others");
        full.misses("group(8, 4)", () -> full.parses.group(8, 4));
        full.misses("group(-1, -1)", () -> full.parses.group(-1, -1));
        Bench.edge(10, "CLASSES of a GRAMMAR that went are no more");
        full.grammar("class[a];class[b];");
        Bench.due("group(1, 0)", full.parses.group(1, 0), 1);
        full.misses("group(2, 0)", () -> full.parses.group(2, 0));
    }

    private static void algebra() {
        Bench.edge(10, "CE: from the left, one behind the other");
        Bench bench = Bench.with("class [ab]|[c]&[c];class [ab]&[b]|[a];class [abc]-[a]|[a];class [abc]-[a]-[b];class [abc]-([a]|[a]);"
            + "class [a]|[b]-[a];class [abc]&[ab]-[a]|[z];class [a]-[a]|[a]-[a];");
        int[] many = {1, 2, 3, 1, 2, 1, 2, 0};
        for (int k = 0; k < many.length; k++) Bench.due("group(" + k + ", 0)", bench.parses.group(k, 0), many[k]);
        Bench.edge(10, "| & - in the lower and in the upper half of the row of SIGNS");
        bench = Bench.with("class [0-9a-f]-[5b];class [0-9a-f]&[5b];class [0-9a-f]|[Zz];class [0-9]-[0-9];class [a-f]-[a-f];class [0-9]-[a-f];class [a-f]&[0-9];");
        int[] half = {14, 2, 18, 0, 0, 10, 0};
        for (int k = 0; k < half.length; k++) Bench.due("group(" + k + ", 0)", bench.parses.group(k, 0), half[k]);
        Bench.edge(10, "CT: ~ is of the one CT behind it");
        bench = Bench.with("class ~[a]|[a];class ~[a]&[ab];class ~([a]&[ab]);class ~~[a];class ~~~[a];class ([ab])-~[a];class ~#0;");
        int[] more = {95, 1, 94, 1, 94, 1, 0};
        for (int k = 0; k < more.length; k++) Bench.due("group(" + k + ", 0)", bench.parses.group(k, 0), more[k]);
    }

    private static void holding() {
        Bench.edge(11, "a SIGN (32 to 126)");
        Bench bench = Bench.with("class ~[];class [];class [b-d];class [\\ ~];");
        Bench.due("holds(0, 32)", bench.parses.holds(0, 32), true);
        Bench.due("holds(0, 126)", bench.parses.holds(0, 126), true);
        Bench.due("holds(1, 32)", bench.parses.holds(1, 32), false);
        Bench.due("holds(1, 126)", bench.parses.holds(1, 126), false);
        for (int sign : new int[] {31, 127, 0, -1, 128, 160, Integer.MIN_VALUE, Integer.MAX_VALUE}) {
            bench.refuses("holds(0, " + sign + ")", () -> bench.parses.holds(0, sign));
        }
        Bench.edge(11, "whether it is of a CLASS: just beside its SIGNS it is not");
        for (int sign = 32; sign <= 126; sign++) {
            Bench.due("holds(2, " + sign + ")", bench.parses.holds(2, sign), sign >= 'b' && sign <= 'd');
            Bench.due("holds(3, " + sign + ")", bench.parses.holds(3, sign), sign == 32 || sign == 126);
        }
        Bench.edge(11, "no such CLASS, ahead of others");
        Bench.due("holds(3, 33)", bench.parses.holds(3, 33), false);
        bench.misses("holds(4, 32)", () -> bench.parses.holds(4, 32));
        bench.misses("holds(-1, 32)", () -> bench.parses.holds(-1, 32));
        bench.misses("holds(4, 31)", () -> bench.parses.holds(4, 31));
        bench.misses("holds(-1, 127)", () -> bench.parses.holds(-1, 127));
    }

    private static void neighbours() {
        Bench.edge(12, "1 they are alike, ahead of all, also without SIGNS");
        Bench bench = Bench.with("class [];class ~[\\ -~];class [a];class [a-c]&[a];class [ab];class [bc];class ~[];class [c];");
        int[][] due = {{0, 0, 1}, {0, 1, 1}, {1, 0, 1}, {2, 3, 1}, {3, 2, 1}, {6, 6, 1}};
        for (int[] row : due) Bench.due("beside(" + row[0] + ", " + row[1] + ")", bench.parses.beside(row[0], row[1]), row[2]);
        Bench.edge(12, "0 nothing in common, ahead of 2, 3, also without SIGNS");
        int[][] nothing = {{0, 2, 0}, {2, 0, 0}, {0, 6, 0}, {6, 0, 0}, {2, 5, 0}, {4, 7, 0}};
        for (int[] row : nothing) Bench.due("beside(" + row[0] + ", " + row[1] + ")", bench.parses.beside(row[0], row[1]), row[2]);
        Bench.edge(12, "2 all of the first one is of the second one, 3 the other way round, 4 else");
        int[][] else4 = {{2, 4, 2}, {4, 2, 3}, {4, 6, 2}, {6, 4, 3}, {4, 5, 4}, {5, 4, 4}, {7, 5, 2}, {5, 7, 3}};
        for (int[] row : else4) Bench.due("beside(" + row[0] + ", " + row[1] + ")", bench.parses.beside(row[0], row[1]), row[2]);
        Bench.edge(12, "in both halves of the row of SIGNS");
        Bench far = Bench.with("class [0z];class [0];class [z];class [1z];class [0y];class [0-9a-z];");
        int[][] halves = {{0, 1, 3}, {1, 0, 2}, {0, 2, 3}, {2, 0, 2}, {1, 2, 0}, {0, 3, 4}, {0, 4, 4}, {3, 4, 0}, {0, 5, 2}, {5, 4, 3}};
        for (int[] row : halves) Bench.due("beside(" + row[0] + ", " + row[1] + ")", far.parses.beside(row[0], row[1]), row[2]);
        Bench.edge(12, "no such CLASS");
        Bench.due("beside(7, 0)", bench.parses.beside(7, 0), 0);
        Bench.due("beside(0, 7)", bench.parses.beside(0, 7), 0);
        bench.misses("beside(8, 0)", () -> bench.parses.beside(8, 0));
        bench.misses("beside(0, 8)", () -> bench.parses.beside(0, 8));
        bench.misses("beside(-1, 0)", () -> bench.parses.beside(-1, 0));
        bench.misses("beside(0, -1)", () -> bench.parses.beside(0, -1));
        bench.misses("beside(8, 8)", () -> bench.parses.beside(8, 8));
    }

    private static void productions() {
        Bench.edge(13, "no such PRODUCTION");
        Bench none = new Bench();
        none.misses("production(0, 0)", () -> none.parses.production(0, 0));
        Bench bench = Bench.with("token 0;" + Bench.times("rule 1 'a';", 18) + "rule 7 @0 @0 @0 @0;");
        int[][] due = {{0, 0, 0}, {1, 1, 1}, {7, 1, 4}};
        for (int what = 0; what < 3; what++) {
            Bench.due("production(0, " + what + ")", bench.parses.production(0, what), due[0][what]);
            Bench.due("production(1, " + what + ")", bench.parses.production(1, what), due[1][what]);
            Bench.due("production(18, " + what + ")", bench.parses.production(18, what), due[1][what]);
            Bench.due("production(19, " + what + ")", bench.parses.production(19, what), due[2][what]);
        }
        bench.misses("production(20, 0)", () -> bench.parses.production(20, 0));
        bench.misses("production(-1, 0)", () -> bench.parses.production(-1, 0));
        Bench.edge(13, "another what; no such PRODUCTION ahead of it");
        bench.refuses("production(0, 3)", () -> bench.parses.production(0, 3));
        bench.refuses("production(19, -1)", () -> bench.parses.production(19, -1));
        bench.misses("production(20, 3)", () -> bench.parses.production(20, 3));
        bench.misses("production(-1, -1)", () -> bench.parses.production(-1, -1));
        Bench.edge(13, "QUOTES are none of them");
        Bench quotes = Bench.with("quote 0 0 'abc';token 3;quote 0 0 'abc';rule 4;");
        Bench.due("production(0, 0)", quotes.parses.production(0, 0), 3);
        Bench.due("production(1, 0)", quotes.parses.production(1, 0), 4);
        quotes.misses("production(2, 0)", () -> quotes.parses.production(2, 0));
    }

    private static void sortRange() {
        Bench.edge(14, "no such SORT (0 to 7)");
        Bench bench = Bench.with("rule 0;rule 7;");
        Bench.due("sort(0, 1)", bench.parses.sort(0, 1), 1);
        Bench.due("sort(7, 1)", bench.parses.sort(7, 1), 1);
        Bench.due("sort(6, 1)", bench.parses.sort(6, 1), 0);
        bench.refuses("sort(-1, 0)", () -> bench.parses.sort(-1, 0));
        bench.refuses("sort(8, 0)", () -> bench.parses.sort(8, 0));
        Bench.edge(14, "another what");
        Bench.due("sort(0, 0)", bench.parses.sort(0, 0), 0);
        Bench.due("sort(0, 5)", bench.parses.sort(0, 5), 0);
        bench.refuses("sort(0, 6)", () -> bench.parses.sort(0, 6));
        bench.refuses("sort(0, -1)", () -> bench.parses.sort(0, -1));
        bench.refuses("sort(8, 6)", () -> bench.parses.sort(8, 6));
    }

    private static void sorts(Bench bench, int what, int... due) {
        for (int sort = 0; sort < 8; sort++) Bench.due("sort(" + sort + ", " + what + ")", bench.parses.sort(sort, what), due[sort]);
    }

    private static void layers() {
        Bench.edge(14, "LAYER: 0 at least");
        sorts(new Bench(), 0, 0, 0, 0, 0, 0, 0, 0, 0);
        sorts(Bench.with("rule 0 @1;rule 1 @0;rule 2 @2;"), 0, 0, 0, 0, 0, 0, 0, 0, 0);
        Bench.edge(14, "LAYER: that of what it USES at least, 1 more than that of what it drops");
        sorts(Bench.with("drop 1 0;rule 2 @1;quote 3 2 'abc';"), 0, 0, 1, 1, 1, 0, 0, 0, 0);
        sorts(Bench.with("quote 3 2 'abc';rule 2 @1;drop 1 0;"), 0, 0, 1, 1, 1, 0, 0, 0, 0);
        sorts(Bench.with("drop 1 0;drop 2 1;drop 2 0;rule 3 @0;drop 3 2;rule 3 @2;"), 0, 0, 1, 2, 3, 0, 0, 0, 0);
        Bench.edge(14, "LAYER: the least such numbers, up to 7");
        sorts(Bench.with("drop 0 1;drop 1 2;drop 2 3;drop 3 4;drop 4 5;drop 5 6;drop 6 7;drop 0 7;"), 0, 7, 6, 5, 4, 3, 2, 1, 0);
        sorts(Bench.with("rule 0 @1;rule 1 @2;rule 2 @3;rule 3 @4;rule 4 @5;rule 5 @6;drop 6 7;"), 0, 1, 1, 1, 1, 1, 1, 1, 0);
        sorts(Bench.with("rule 6 @5;rule 5 @4;rule 4 @3;rule 3 @2;rule 2 @1;rule 1 @6;drop 3 0;"), 0, 0, 1, 1, 1, 1, 1, 1, 0);
    }

    private static void emptiness() {
        Bench.edge(14, "MAY BE EMPTY: a PRODUCTION without EL; without any it may not");
        sorts(Bench.with("rule 0;token 2;"), 1, 1, 0, 1, 0, 0, 0, 0, 0);
        Bench.edge(14, "MAY BE EMPTY: all EL are SORTS that MAY BE EMPTY, not all but one");
        sorts(Bench.with("rule 0;rule 1 @0 @0 @0 @0;rule 2 @0 @0 @0 @7;rule 3 @7 @0 @0 @0;rule 4 @0 'a';class [];rule 5 #0;rule 6 @6;"), 1,
            1, 1, 0, 0, 0, 0, 0, 0);
        Bench.edge(14, "MAY BE EMPTY: one of its PRODUCTIONS is enough");
        sorts(Bench.with("rule 0 'a';rule 0;rule 0 'b';rule 1 @0;rule 1 'a';"), 1, 1, 1, 0, 0, 0, 0, 0, 0);
        Bench.edge(14, "MAY BE EMPTY: through all SORTS, whichever is told first");
        sorts(Bench.with("rule 0 @1;rule 1 @2;rule 2 @3;rule 3 @4;rule 4 @5;rule 5 @6;rule 6 @7;rule 7;"), 1, 1, 1, 1, 1, 1, 1, 1, 1);
        sorts(Bench.with("rule 7 @6;rule 6 @5;rule 5 @4;rule 4 @3;rule 3 @2;rule 2 @1;rule 1 @0;rule 0;"), 1, 1, 1, 1, 1, 1, 1, 1, 1);
        sorts(Bench.with("rule 0 @1;rule 1 @2;rule 2 @3;rule 3 @4;rule 4 @5;rule 5 @6;rule 6 @7;rule 7 @0;"), 1, 0, 0, 0, 0, 0, 0, 0, 0);
        Bench.edge(14, "MAY BE EMPTY: whatever not and drop say; QUOTES say nothing");
        Bench bench = Bench.with("class ~[];rule 0;not 0 #0;drop 0 1;rule 1;quote 2 0 'abc';");
        sorts(bench, 1, 1, 1, 0, 0, 0, 0, 0, 0);
        Bench.due("is(0, 0, 0)", bench.parses.is(0, 0, 0), false);
        Bench.due("is(1, 0, 0)", bench.parses.is(1, 0, 0), true);
    }

    private static void begins(Bench bench, int sort, String signs) {
        Bench.due("sort(" + sort + ", 2)", bench.parses.sort(sort, 2), signs.length());
        Bench.due("sort(" + sort + ", 3)", bench.parses.sort(sort, 3), signs.isEmpty() ? -1 : signs.charAt(0));
        for (char sign : "abcdefghx \\'<>!".toCharArray()) {
            Bench.due("begins(" + sort + ", " + sign + ")", bench.parses.begins(sort, sign), signs.indexOf(sign) >= 0);
        }
    }

    private static void beginnings() {
        Bench.edge(15, "up to the first EL that can not be empty, of four");
        Bench bench = Bench.with("token 7;token 7 'x';token 0 'a' 'b' 'c' 'd';token 1 @7 'b' 'c' 'd';token 2 @7 @7 'c' 'd';token 3 @7 @7 @7 'd';"
            + "token 4 @7 @7 @7 @7;token 5 @0 @1;token 6 @1 @0;");
        String[] due = {"a", "bx", "cx", "dx", "x", "a", "bx", "x"};
        for (int sort = 0; sort < 8; sort++) begins(bench, sort, due[sort]);
        Bench.edge(15, "of a WORD its first SIGN, of a CLASS all, of none none");
        bench = Bench.with("class [cde];class [];token 0 'abcdefgh';token 1 #0 'a';token 2 #1 'a';token 3 @2 'a';token 4 #1;token 4 'b';");
        String[] more = {"a", "cde", "", "", "b", "", "", ""};
        for (int sort = 0; sort < 8; sort++) begins(bench, sort, more[sort]);
        Bench.edge(15, "OPEN of its QUOTES alone; a SORT by a QUOTE can not be empty");
        bench = Bench.with("quote 0 1 '<>!';quote 0 1 'ab!';quote 2 0 '\\'b\\\\';token 1 'x';token 3 @0 'c';token 4 @2;token 4;");
        String[] quoted = {"<a", "x", "'", "<a", "'", "", "", ""};
        for (int sort = 0; sort < 8; sort++) begins(bench, sort, quoted[sort]);
        Bench.edge(15, "layout is left out, whatever not and drop say");
        bench = Bench.with("class [\\ ];lay #0;rule 0 @1 'a';rule 1;rule 2 'a' 'b';class [a];not 2 #1;drop 2 0;rule 3 @2;");
        String[] laid = {"a", "", "a", "a", "", "", "", ""};
        for (int sort = 0; sort < 8; sort++) begins(bench, sort, laid[sort]);
        Bench.edge(15, "through all SORTS, whichever is told first, and round about");
        bench = Bench.with("token 0 @1;token 1 @2;token 2 @3;token 3 @4;token 4 @5;token 5 @6;token 6 @7;token 7 'a';");
        for (int sort = 0; sort < 8; sort++) begins(bench, sort, "a");
        bench = Bench.with("token 7 @6;token 6 @5;token 5 @4;token 4 @3;token 3 @2;token 2 @1;token 1 @0;token 0 @7;token 0 'b';");
        for (int sort = 0; sort < 8; sort++) begins(bench, sort, "b");
        bench = Bench.with("token 0 @0 'a';token 1 @1 'a';token 1;token 2 @3;token 3 @2;");
        String[] round = {"", "a", "", "", "", "", "", ""};
        for (int sort = 0; sort < 8; sort++) begins(bench, sort, round[sort]);
    }

    private static void howManyBegin() {
        Bench.edge(14, "how many SIGNS BEGINS has, the least: none, one, all");
        Bench bench = Bench.with("class ~[];class [~];class [\\ ];token 0;token 1 #0;token 2 #1;token 3 #2;token 4 #1;token 4 #2;");
        sorts(bench, 2, 0, 95, 1, 1, 2, 0, 0, 0);
        sorts(bench, 3, -1, 32, 126, 32, 32, -1, -1, -1);
    }

    private static void usesAndNeeds() {
        Bench.edge(14, "USES: of PRODUCTIONS and QUOTES, not of drops; bits of the first and the last SORT");
        Bench bench = Bench.with("rule 0 @7 @0;rule 1 'a' @0 'b' @7;quote 2 7 'abc';quote 2 0 'abc';drop 3 0;drop 3 7;");
        sorts(bench, 4, 129, 129, 129, 0, 0, 0, 0, 0);
        Bench.edge(14, "NEEDS: what it USES, drops, and what these NEED");
        sorts(bench, 5, 129, 129, 129, 129, 0, 0, 0, 0);
        sorts(Bench.with("drop 0 1;rule 1 @2;quote 2 3 'abc';drop 3 4;rule 4 @5;rule 5 @6;rule 6 @7;"), 5, 254, 252, 248, 240, 224, 192, 128, 0);
        sorts(Bench.with("rule 6 @7;rule 5 @6;rule 4 @5;drop 3 4;quote 2 3 'abc';rule 1 @2;drop 0 1;"), 5, 254, 252, 248, 240, 224, 192, 128, 0);
        Bench.edge(14, "NEEDS: itself, if it comes back to it; none without");
        sorts(Bench.with("rule 0 @0;rule 1 @2;rule 2 @1;"), 5, 1, 6, 6, 0, 0, 0, 0, 0);
        sorts(Bench.with("rule 0 @1;rule 1 @2;rule 2 @3;rule 3 @4;rule 4 @5;rule 5 @6;rule 6 @7;rule 7 @0;"), 5, 255, 255, 255, 255, 255, 255, 255, 255);
        sorts(new Bench(), 5, 0, 0, 0, 0, 0, 0, 0, 0);
    }

    private static void beginsRange() {
        Bench.edge(15, "a SIGN (32 to 126)");
        Bench bench = Bench.with("class ~[];token 0 #0;token 7 #0;");
        Bench.due("begins(0, 32)", bench.parses.begins(0, 32), true);
        Bench.due("begins(7, 126)", bench.parses.begins(7, 126), true);
        bench.refuses("begins(0, 31)", () -> bench.parses.begins(0, 31));
        bench.refuses("begins(0, 127)", () -> bench.parses.begins(0, 127));
        bench.refuses("begins(0, least)", () -> bench.parses.begins(0, Integer.MIN_VALUE));
        Bench.edge(15, "no such SORT");
        Bench.due("begins(6, 32)", bench.parses.begins(6, 32), false);
        bench.refuses("begins(-1, 32)", () -> bench.parses.begins(-1, 32));
        bench.refuses("begins(8, 32)", () -> bench.parses.begins(8, 32));
        bench.refuses("begins(8, 31)", () -> bench.parses.begins(8, 31));
    }
}
