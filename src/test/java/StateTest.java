/** Promises 1, 2, 5, 8, 9 and 31 to 36: what stays, what goes, what comes back. */
public final class StateTest {
    public static void main(String[] args) {
        newObject();
        tape();
        grammarStartsAnew();
        steps();
        limitOfSteps();
        sixteenWorks();
        undoing();
        refusedSteps();
        images();
        restoring();
        years();
        spans();
        askingChangesNothing();
        manyBodies();
        statusAndCount();
        Bench.close("StateTest");
    }

    private static void newObject() {
        PrunedParses parses = new Bench().parses;
        int[] due = {0, 0, 0, 0, 0, -1, 0, 0, 0, 0};
        for (int what = 0; what < 10; what++) Bench.due("told(" + what + ") at first", parses.told(what), due[what]);
        for (int what = 0; what < 3; what++) Bench.due("count(" + what + ") at first", parses.count(what), 0);
        for (int what = 0; what < 2; what++) Bench.due("status(" + what + ") at first", parses.status(what), 0);
        for (int sort = 0; sort < 8; sort++) {
            Bench.due("is at first", parses.is(sort, 0, 0), false);
            Bench.due("ends at first", parses.ends(sort, 0), 0);
            Bench.due("layer at first", parses.sort(sort, 0), 0);
            Bench.due("empty at first", parses.sort(sort, 1), 0);
            Bench.due("needs at first", parses.sort(sort, 5), 0);
        }
        Bench.due("fault() at first", parses.fault(), -1);
        Bench.due("faulted() at first", parses.faulted(), -1);
        Bench.due("undo() at first", parses.undo(), -1);
        Bench.due("restore() at first", parses.restore(), -1);
        Bench.due("NONE", PrunedParses.NONE, -1);
    }

    private static void tape() {
        Bench bench = new Bench();
        for (int k = 1; k <= 30; k++) Bench.due("feed " + k, bench.parses.feed(k, 0, 0, 0, 0), 20 * k);
        Bench.due("feed too much", bench.parses.feed(1, 2, 3, 4, 5), -1);
        Bench.due("count(1)", bench.parses.count(1), 600);
        bench.refuses("grammar(601)", () -> bench.parses.grammar(601));
        bench.refuses("grammar(-1)", () -> bench.parses.grammar(-1));
        Bench.due("count(1) behind grammar(601)", bench.parses.count(1), 600);
        Bench.due("grammar(600)", bench.parses.grammar(600), -9);
        Bench.due("count(1) behind grammar(600)", bench.parses.count(1), 0);
        // Of each number the highest byte first, and a byte above 127 is just itself.
        bench.parses.feed('r' << 24 | 'u' << 16 | 'l' << 8 | 'e', ' ' << 24 | '3' << 16 | ';' << 8 | 0xff, 0, 0, 0);
        Bench.due("grammar(7)", bench.parses.grammar(7), 1);
        Bench.due("production(0, 0)", bench.parses.production(0, 0), 3);
        bench.parses.feed(0xff000000, 0, 0, 0, 0);
        Bench.due("grammar of byte 255", bench.parses.grammar(1), -9);
        Bench.due("fault() of byte 255", bench.parses.fault(), 0);
        // What is left of the TAPE is gone, too.
        bench.feed("rule 0;rule 1;");
        Bench.due("grammar(7) of 20", bench.parses.grammar(7), 1);
        Bench.due("count(1) behind grammar(7)", bench.parses.count(1), 0);
    }

    private static void grammarStartsAnew() {
        Bench bench = Bench.with("class [a];rule 0 #0;").type("a");
        bench.work("cut 9 9;");
        bench.law("7");
        bench.parses.image();
        Bench.due("worth(0)", bench.parses.worth(0), 7);
        bench.grammarFault("rule 9;", 2, 5, 0);
        Bench.due("count(0) behind a fault", bench.parses.count(0), 1);
        Bench.due("count(2) behind a fault", bench.parses.count(2), 2);
        Bench.due("told(9) behind a fault", bench.parses.told(9), 1);
        Bench.due("worth(0) behind a fault", bench.parses.worth(0), 7);
        bench.feed("x");
        bench.refuses("grammar(21)", () -> bench.parses.grammar(21));
        bench.textIs("a");
        Bench.due("told(7) behind a fault", bench.parses.told(7), 1);
        Bench.due("a grammar without clauses", bench.parses.grammar(0), 0);
        bench.textIs("");
        for (int what = 0; what < 10; what++) Bench.due("told behind grammar(0)", bench.parses.told(what), what == 5 ? -1 : 0);
        for (int what = 0; what < 3; what++) Bench.due("count behind grammar(0)", bench.parses.count(what), 0);
        Bench.due("undo() behind grammar(0)", bench.parses.undo(), -1);
        Bench.due("restore() behind grammar(0)", bench.parses.restore(), -1);
        Bench.due("status(1) behind grammar(0)", bench.parses.status(1), 1);
        bench.grammar("rule 0;");
        Bench.due("worth(0) without a law", bench.parses.worth(0), 1);
    }

    private static void steps() {
        Bench bench = new Bench();
        bench.step("type 1 'a';", 0, 1, "");
        bench.step("type 0 'abcd';type 4 'ef';type 2 '-';", 3, 0, "ab-cdef");
        bench.step("cut 2 1;cut 6 1;cut 5 2;cut 0 0;cut 6 0;cut 7 0;", 1, 5, "abcdef");
        bench.step("cut 4 2;cut 0 1;", 2, 0, "bcd");
        bench.step("swap 0 2;swap 0 3;swap 3 0;swap 1 1;swap 2 1;", 2, 3, "dbc");
        bench.step("cut 0 3;type 0 '\\'\\\\ ]-[;';", 2, 0, "'\\ ]-[;");
        // Both alike: SIGNS that are the same, at one place or at two.
        bench.step("cut 0 7;type 0 'aba';swap 0 2;swap 0 1;", 3, 1, "baa");
        bench.step("cut 0 3;type 0 '12345678';type 8 '12345678';type 16 '12345678';", 4, 0, "123456781234567812345678");
        bench.step("type 0 'a';type 24 'b';cut 24 1;cut 23 2;cut 23 1;type 23 'cd';type 23 'c';", 2, 5, "12345678123456781234567c");
        bench.step("cut 0 24;again 3[type 0 'a';again 2[type 0 'b';];];", 10, 0, "bbabbabba");
        bench.step("again 0[cut 0 1;];again 5[];cut 0 9;again 2[cut 0 1;];", 1, 2, "");
        // Where there is no SIGN any more there is none to change places with.
        bench = new Bench();
        bench.step("type 0 'abc';cut 2 1;swap 2 0;swap 0 2;swap 3 0;", 2, 3, "ab");
        bench = new Bench();
        bench.step("again 3[type 0 'abcdefgh';];swap 24 0;swap 0 24;swap 23 0;", 4, 2, "hbcdefghabcdefghabcdefga");
        bench = new Bench();
        bench.step("type 0 'abcd';again 3[swap 0 1;swap 1 2;];", 7, 0, "abcd");
        bench.step("again 2[again 3[swap 0 1;];again 0[swap 0 3;];swap 2 3;];", 8, 0, "abcd");
    }

    private static void limitOfSteps() {
        Bench bench = new Bench();
        // An again, and 5 STEPS each time: the 200th is the 4th one of the last time.
        bench.step("again 40[again 1[cut 0 0;];cut 0 0;cut 0 1;type 0 'a';];type 0 'b';", 78, 81, "");
        bench = new Bench();
        bench.step("again 40[again 40[again 40[];];];type 0 'a';", 0, 0, "");
        bench = new Bench();
        // 1 + 4 * 39 + 1 + 41 + 1 are 200.
        bench.step("again 4[again 38[cut 0 0;];];type 0 'x';again 40[cut 0 0;];type 0 'y';type 0 'z';", 2, 192, "yx");
        Bench.due("undo() of a WORK that was cut short", bench.parses.undo(), 0);
        bench.textIs("");
    }

    private static void sixteenWorks() {
        Bench bench = new Bench();
        for (int k = 1; k <= 16; k++) {
            Bench.due("work " + k, bench.work("type 0 'a';cut 9 9;"), 1);
            Bench.due("count(2)", bench.parses.count(2), k);
        }
        bench.lawFault("?", 1, 0);
        bench.feed("type 0 'b';?");
        bench.refuses("work(21) with 16", () -> bench.parses.work(21));
        Bench.due("fault() behind work(21)", bench.parses.fault(), 0);
        Bench.due("work with 16, faulty", bench.parses.work(12), -20);
        Bench.due("fault() behind -20", bench.parses.fault(), -1);
        Bench.due("faulted() behind -20", bench.parses.faulted(), -1);
        Bench.due("count(1) behind -20", bench.parses.count(1), 0);
        Bench.due("count(2) behind -20", bench.parses.count(2), 16);
        Bench.due("told(9) behind -20", bench.parses.told(9), 1);
        Bench.due("told(8) behind -20", bench.parses.told(8), 16);
        Bench.due("undo() of 16", bench.parses.undo(), 15);
        Bench.due("work behind undo()", bench.work("type 0 'b';"), 1);
        Bench.due("sign(0)", bench.parses.sign(0), 'b');
    }

    private static void undoing() {
        Bench bench = Bench.with("token 0 'a';");
        bench.work("type 0 'a';");
        bench.work("type 1 'bc';swap 0 1;");
        bench.work("");
        bench.work("cut 9 1;");
        bench.workFault("cut 9 1;cut", 1, 11, 1);
        Bench.due("count(2)", bench.parses.count(2), 4);
        Bench.due("undo() of refused STEPS", bench.parses.undo(), 3);
        bench.textIs("bac");
        Bench.due("undo() of no STEPS", bench.parses.undo(), 2);
        bench.textIs("bac");
        Bench.due("is behind undo()", bench.parses.is(0, 1, 2), true);
        Bench.due("undo() of two STEPS", bench.parses.undo(), 1);
        bench.textIs("a");
        Bench.due("is behind undo() again", bench.parses.is(0, 0, 1), true);
        Bench.due("undo() of the first", bench.parses.undo(), 0);
        bench.textIs("");
        Bench.due("undo() of none", bench.parses.undo(), -1);
        Bench.due("fault() behind undo()", bench.parses.fault(), 11);
    }

    private static void refusedSteps() {
        Bench bench = new Bench();
        bench.work("cut 0 1;cut 0 1;");
        bench.work("cut 0 1;");
        Bench.due("told(9) behind WORK", bench.parses.told(9), 1);
        bench.workFault("cut 0 1;cut", 1, 11, 1);
        Bench.due("told(9) behind a fault", bench.parses.told(9), 1);
        bench.parses.image();
        Bench.due("told(9) behind image()", bench.parses.told(9), 1);
        bench.parses.undo();
        Bench.due("told(9) behind undo()", bench.parses.told(9), 0);
        bench.work("cut 0 1;");
        bench.parses.restore();
        Bench.due("told(9) behind restore()", bench.parses.told(9), 0);
        bench.work("cut 0 1;");
        Bench.due("restore() of none", bench.parses.restore(), -1);
        Bench.due("told(9) behind restore() of none", bench.parses.told(9), 1);
        for (int left = 2; left >= -1; left--) Bench.due("undo()", bench.parses.undo(), left);
        bench.work("cut 0 1;cut 0 1;");
        bench.parses.undo();
        bench.grammarFault("?", 1, 0, 0);
        bench.work("cut 0 1;cut 0 1;");
        Bench.due("told(9) ahead of a grammar", bench.parses.told(9), 2);
        bench.grammar("");
        Bench.due("told(9) behind a grammar", bench.parses.told(9), 0);
    }

    private static void images() {
        Bench bench = new Bench();
        for (int k = 1; k <= 3; k++) {
            bench.work("type 0 '" + k + "';");
            Bench.due("image() " + k, bench.parses.image(), k);
            Bench.due("count(0)", bench.parses.count(0), k);
        }
        Bench.due("image() with 3", bench.parses.image(), -1);
        Bench.due("count(0) with 3", bench.parses.count(0), 3);
        bench.work("cut 0 3;");
        Bench.due("restore() 3", bench.parses.restore(), 2);
        bench.textIs("321");
        Bench.due("restore() 2", bench.parses.restore(), 1);
        bench.textIs("21");
        Bench.due("image() again", bench.parses.image(), 2);
        Bench.due("restore() again", bench.parses.restore(), 1);
        bench.textIs("21");
        Bench.due("restore() 1", bench.parses.restore(), 0);
        bench.textIs("1");
        Bench.due("restore() of none", bench.parses.restore(), -1);
        bench.textIs("1");
    }

    private static void restoring() {
        Bench bench = Bench.with("token 0 'ab';token 1 'ba';");
        bench.work("type 0 'b';");
        bench.work("type 0 'a';");
        bench.parses.image();
        Bench.due("undo()", bench.parses.undo(), 1);
        Bench.due("undo()", bench.parses.undo(), 0);
        bench.work("type 0 'xyz';");
        bench.law("3");
        bench.feed("abc");
        bench.refuses("sort(8, 0)", () -> bench.parses.sort(8, 0));
        Bench.due("restore()", bench.parses.restore(), 0);
        bench.textIs("ab");
        Bench.due("told(7) behind restore()", bench.parses.told(7), 1);
        // Neither the LAW nor the TAPE nor what was refused is changed by WORK.
        Bench.due("worth(0) behind restore()", bench.parses.worth(0), 3);
        Bench.due("count(1) behind restore()", bench.parses.count(1), 20);
        Bench.due("status(1) behind restore()", bench.parses.status(1), 1);
        Bench.due("count(2) behind restore()", bench.parses.count(2), 2);
        Bench.due("undo() behind restore()", bench.parses.undo(), 1);
        bench.textIs("b");
        Bench.due("undo() behind restore()", bench.parses.undo(), 0);
        bench.textIs("");
        // All sixteen WORKS are kept by an image.
        Bench full = new Bench();
        for (int k = 0; k < 16; k++) full.work("type 0 '" + (char) ('a' + k) + "';");
        full.parses.image();
        for (int k = 0; k < 16; k++) full.parses.undo();
        full.parses.restore();
        Bench.due("count(2) of a full image", full.parses.count(2), 16);
        full.textIs("ponmlkjihgfedcba");
        for (int k = 15; k >= 0; k--) Bench.due("undo() of a full image", full.parses.undo(), k);
        full.textIs("");
    }

    private static final String LETTERS = "class ~[];class [\\ -O];token 0;token 0 #0 #0 @0;token 1 #0;token 1 @1 #0;"
        + "token 2;token 2 @2 #1;";

    /** Does n edits of a year by works of its own, and holds them against year(). */
    private static void yearIs(String text, int seed, int n) {
        Bench bench = Bench.with(LETTERS).type(text);
        Bench other = Bench.with(LETTERS).type(text);
        int draws = seed;
        int refused = 0;
        int fitting = 0;
        for (int time = 0; time < n; time++) {
            int[] drawn = new int[4];
            for (int k = 0; k < 4; k++) {
                draws = draws * 1103515245 + 12345;
                drawn[k] = draws >>> 16 & 32767;
                if (k == 2 && drawn[0] % 4 != 2 || k == 1 && drawn[0] % 4 == 2) break;
            }
            int length = other.parses.told(8);
            String sign = "" + (char) (32 + drawn[2] % 95);
            if (sign.equals("'") || sign.equals("\\")) sign = "\\" + sign;
            String step = "type " + drawn[1] % (length + 1) + " '" + sign + "';";
            if (drawn[0] % 4 == 2) step = "cut " + drawn[1] % (length + 1) + " 1;";
            if (drawn[0] % 4 == 3) step = "swap " + drawn[1] % 24 + " " + drawn[2] % 24 + ";";
            other.work(step);
            refused += other.parses.told(9);
            fitting += other.parses.told(7) & 1;
            if (other.parses.count(2) == 16) {
                // Room for more WORKS: the TEXT goes on in another object.
                other = Bench.with(LETTERS).type(other.text());
            }
        }
        String name = "year(" + seed + ", " + n + ", ";
        Bench.due(name + "0)", bench.parses.year(seed, n, 0), other.parses.told(8));
        Bench.due(name + "1)", bench.parses.year(seed, n, 1), other.parses.told(7));
        Bench.due(name + "2)", bench.parses.year(seed, n, 2), refused);
        Bench.due(name + "3)", bench.parses.year(seed, n, 3), fitting);
        bench.textIs(text);
    }

    private static void years() {
        String[] texts = {"", "abc", "Hello, world: 24 signs..", "aaaaaaaaaaaaaaaaaaaaaaaa"};
        for (int k = 0; k < texts.length; k++) {
            for (int n = 1; n <= 24; n += 5 - k) yearIs(texts[k], 7 * n + k, n);
            yearIs(texts[k], Integer.MIN_VALUE + k, 24);
            yearIs(texts[k], -1, 24);
        }
        PrunedParses parses = new Bench().parses;
        Bench bench = new Bench();
        bench.refuses("year(0, 0, 0)", () -> bench.parses.year(0, 0, 0));
        bench.refuses("year(0, 25, 0)", () -> bench.parses.year(0, 25, 0));
        bench.refuses("year(0, 1, -1)", () -> bench.parses.year(0, 1, -1));
        bench.refuses("year(0, 1, 4)", () -> bench.parses.year(0, 1, 4));
        Bench.due("year(5, 24, 3) without a grammar", parses.year(5, 24, 3), 0);
    }

    private static void spanIs(Bench bench, int seed, int many, int n) {
        int least = 24;
        int greatest = 0;
        int[] fitting = new int[8];
        for (int k = 0; k < many; k++) {
            int length = bench.parses.year(seed + k, n, 0);
            least = Math.min(least, length);
            greatest = Math.max(greatest, length);
            for (int sort = 0; sort < 8; sort++) fitting[sort] += bench.parses.year(seed + k, n, 1) >>> sort & 1;
        }
        String name = "span(" + seed + ", " + many + ", " + n + ", ";
        Bench.due(name + "0, 7)", bench.parses.span(seed, many, n, 0, 7), least);
        Bench.due(name + "1, 0)", bench.parses.span(seed, many, n, 1, 0), greatest);
        for (int sort = 0; sort < 8; sort++) {
            Bench.due(name + "2, " + sort + ")", bench.parses.span(seed, many, n, 2, sort), fitting[sort]);
        }
    }

    private static void spans() {
        Bench bench = Bench.with(LETTERS).type("ab ");
        for (int many = 1; many <= 4; many++) spanIs(bench, 5 * many, many, 6 * many);
        spanIs(bench, Integer.MAX_VALUE - 1, 4, 9);
        spanIs(bench, 77, 4, 1);
        int[][] bad = {{0, 1, 0, 0}, {5, 1, 0, 0}, {1, 0, 0, 0}, {1, 25, 0, 0}, {1, 1, -1, 0}, {1, 1, 3, 0}, {1, 1, 0, -1}, {1, 1, 0, 8}};
        for (int[] row : bad) {
            bench.refuses("span(1, " + row[0] + ", " + row[1] + ", " + row[2] + ", " + row[3] + ")",
                () -> bench.parses.span(1, row[0], row[1], row[2], row[3]));
        }
    }

    /** What is only asked leaves the TEXT, and what else is asked, as they are. */
    private static void askingChangesNothing() {
        for (int round = 0; round < 3; round++) {
            Bench bench = Bench.with("token 0 'x';quote 0 0 '<>!';quote 0 0 '()!';quote 1 2 '(>!';token 3 @0 @0;").type("<x>(y)");
            long before = asked(bench);
            bench.parses.fits(3, 4, round);
            bench.parses.year(3, 24, round);
            bench.parses.span(3, 4, 24, round, 0);
            bench.parses.wrong(3, round, 0);
            bench.parses.body(1, 3);
            bench.parses.inside(0, 0, 0);
            Bench.due("all behind what was only asked", asked(bench), before);
        }
    }

    /** An object that has seen very many bodies answers as one that has seen none. */
    private static void manyBodies() {
        String grammar = "class ~[];token 0;token 0 @0 #0 #0;token 0 @1 @2;quote 1 0 'ab!';quote 1 2 'ac!';quote 2 0 'db!';quote 2 1 'ed!';drop 3 0;token 3 @1;";
        String text = "aaedadaaeadeaddaa!bdccbb";
        Bench bench = Bench.with(grammar).type(text);
        for (int seed = 0; seed < 40; seed++) {
            Bench fresh = Bench.with(grammar).type(text);
            for (int what = 1; what < 4; what += 2) {
                Bench.due("year(" + seed + ", 24, " + what + ")", bench.parses.year(seed, 24, what), fresh.parses.year(seed, 24, what));
            }
            int place = seed % 24;
            Bench.due("fits(3, " + place + ", 0)", bench.parses.fits(3, place, 0), fresh.parses.fits(3, place, 0));
            Bench.due("wrong(3, 1, 2)", bench.parses.wrong(3, 1, 2), fresh.parses.wrong(3, 1, 2));
        }
    }

    private static long asked(Bench bench) {
        PrunedParses parses = bench.parses;
        int length = parses.told(8);
        long all = parses.told(7) + 31L * length + parses.count(2) + parses.fits(3, 4, 1);
        for (int sort = 0; sort < 8; sort++) {
            all = all * 31 + parses.pieces(sort);
            for (int k = 0; k < 3; k++) all = all * 31 + parses.wrong(sort, k, 2) + parses.nodes(sort, 0, 3) + parses.body(0, k);
            for (int i = 0; i <= length; i++) all = all * 31 + parses.ends(sort, i) + parses.height(sort, 0, i);
        }
        return all;
    }

    private static void statusAndCount() {
        Bench bench = new Bench();
        PrunedParses parses = bench.parses;
        bench.misses("sign(0)", () -> parses.sign(0));
        bench.misses("sign(1)", () -> parses.sign(1));
        bench.refuses("told(77)", () -> parses.told(77));
        Bench.due("status(0)", parses.status(0), 2);
        Bench.due("status(1)", parses.status(1), 1);
        Bench.due("status(2)", parses.status(2), -1);
        Bench.due("status(-1)", parses.status(-1), -1);
        Bench.due("count(3)", parses.count(3), -1);
        Bench.due("count(-1)", parses.count(-1), -1);
        parses.image();
        bench.misses("run(1)", () -> parses.run(1));
        parses.restore();
        Bench.due("status(0) behind restore()", parses.status(0), 3);
        parses.grammar(0);
        Bench.due("status(0) behind grammar()", parses.status(0), 3);
        Bench.due("status(1) behind all", parses.status(1), 1);
    }
}
