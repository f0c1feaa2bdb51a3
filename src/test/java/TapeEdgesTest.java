/** Boundary cases of promises 1 to 3: a new object, the tape, what a grammar answers and leaves; both sides of each. */
public final class TapeEdgesTest {
    /** As full as can be: 60 CLAUSES, 8 CLASSES, 20 PRODUCTIONS, 4 QUOTES, 8 "not", 8 "drop". */
    private static final String FULL = Bench.times("class[a];", 8) + Bench.times("rule0;", 10) + Bench.times("token1;", 10)
        + Bench.times("quote0 0'abc';", 4) + Bench.times("not0#7;", 8) + Bench.times("drop0 7;", 8) + Bench.times("lay#6;", 12);

    public static void main(String[] args) {
        newObject();
        tape();
        tapeIsReadByBytes();
        lengthOfGrammar();
        whatGrammarAnswers();
        whatStaysAndGoes();
        nothingOfOthers();
        clauses();
        Bench.closeEdges("TapeEdgesTest", 1, 3);
    }

    private static void newObject() {
        Bench.edge(1, "a GRAMMAR without CLAUSES");
        Bench bench = new Bench();
        PrunedParses parses = bench.parses;
        int[] told = {0, 0, 0, 0, 0, -1, 0};
        for (int what = 0; what < told.length; what++) Bench.due("told(" + what + ")", parses.told(what), told[what]);
        bench.misses("group(0, 0)", () -> parses.group(0, 0));
        bench.misses("production(0, 0)", () -> parses.production(0, 0));
        bench.misses("body(0, 0)", () -> parses.body(0, 0));
        for (int sort = 0; sort < 8; sort++) {
            int[] due = {0, 0, 0, -1, 0, 0};
            for (int what = 0; what < 6; what++) Bench.due("sort(" + sort + ", " + what + ")", parses.sort(sort, what), due[what]);
            Bench.due("is(" + sort + ", 0, 0)", parses.is(sort, 0, 0), false);
        }
        Bench.edge(1, "the TEXT is empty");
        Bench empty = new Bench();
        Bench.due("told(8)", empty.parses.told(8), 0);
        Bench.due("run(0)", empty.parses.run(0), 0);
        empty.misses("sign(0)", () -> empty.parses.sign(0));
        empty.misses("run(1)", () -> empty.parses.run(1));
        empty.refuses("is(0, 0, 1)", () -> empty.parses.is(0, 0, 1));
        Bench.edge(1, "nothing else is there");
        Bench other = new Bench();
        for (int what = 0; what < 3; what++) Bench.due("count(" + what + ")", other.parses.count(what), 0);
        for (int what = 0; what < 2; what++) Bench.due("status(" + what + ")", other.parses.status(what), 0);
        Bench.due("told(9)", other.parses.told(9), 0);
        Bench.due("fault()", other.parses.fault(), -1);
        Bench.due("faulted()", other.parses.faulted(), -1);
        Bench.due("undo()", other.parses.undo(), -1);
        Bench.due("restore()", other.parses.restore(), -1);
        Bench.edge(1, "used for at most 512 calls: the 512th is the last that answers as due");
        PrunedParses used = new PrunedParses();
        for (int call = 1; call < 511; call++) used.feed(0x72756c65, 0x20303b20, 0x20202020, 0x20202020, 0x20202020);
        Bench.due("grammar(600) as the 511th call", used.grammar(600), -7);
        Bench.due("fault() as the 512th call", used.fault(), 20 * 20);
        Bench.edge(1, "of its own, whatever other objects do");
        bench.grammar("rule 0;");
        bench.work("type 0 'a';");
        Bench.due("told(1)", other.parses.told(1), 0);
        Bench.due("told(8)", other.parses.told(8), 0);
    }

    private static void tape() {
        Bench.edge(2, "twenty bytes");
        PrunedParses parses = new Bench().parses;
        Bench.due("feed 1", parses.feed(0, 0, 0, 0, 0), 20);
        Bench.due("feed 2", parses.feed(-1, -1, -1, -1, -1), 40);
        Bench.edge(2, "NONE, if there would be more than 600");
        for (int k = 3; k < 30; k++) parses.feed(k, k, k, k, k);
        Bench.due("count(1)", parses.count(1), 580);
        Bench.due("feed 30", parses.feed(0, 0, 0, 0, 0), 600);
        Bench.due("feed 31", parses.feed(0, 0, 0, 0, 0), -1);
        Bench.due("feed 32", parses.feed(0, 0, 0, 0, 0), -1);
        Bench.due("count(1) behind NONE", parses.count(1), 600);
        Bench.edge(2, "doing nothing, if there would be more than 600");
        Bench bench = new Bench();
        bench.feed(FULL + Bench.times(" ", 600 - FULL.length()));
        Bench.due("feed 31", bench.parses.feed('?', '?', '?', '?', '?'), -1);
        Bench.due("fault()", bench.parses.fault(), -1);
        Bench.due("status(1)", bench.parses.status(1), 0);
        Bench.due("grammar(600)", bench.parses.grammar(600), 20);
        Bench.edge(2, "from 20 on again, when the TAPE is empty");
        Bench.due("feed behind grammar()", bench.parses.feed(0, 0, 0, 0, 0), 20);
        bench.parses.law(0);
        Bench.due("feed behind law()", bench.parses.feed(0, 0, 0, 0, 0), 20);
        bench.parses.work(0);
        Bench.due("feed behind work()", bench.parses.feed(0, 0, 0, 0, 0), 20);
    }

    /** Eleven blanks and a byte: the place of the fault tells where that byte was put. */
    private static void tapeIsReadByBytes() {
        Bench.edge(2, "of each number the highest first");
        for (int byteOfFive = 0; byteOfFive < 20; byteOfFive++) {
            Bench bench = new Bench();
            int[] numbers = new int[5];
            for (int k = 0; k < 20; k++) numbers[k / 4] = numbers[k / 4] << 8 | (k == byteOfFive ? 255 : 32);
            bench.parses.feed(numbers[0], numbers[1], numbers[2], numbers[3], numbers[4]);
            Bench.due("grammar(20)", bench.parses.grammar(20), -9);
            Bench.due("fault()", bench.parses.fault(), byteOfFive);
        }
        Bench.edge(2, "bytes of numbers that are negative");
        Bench bench = new Bench();
        bench.parses.feed(Integer.MIN_VALUE | 32 << 16, 0, 0, 0, 0);
        Bench.due("grammar(1) of byte 128", bench.parses.grammar(1), -9);
        Bench.due("fault() of byte 128", bench.parses.fault(), 0);
        bench.parses.feed(0x20202080, 0, 0, 0, 0);
        Bench.due("grammar(3) ahead of byte 128", bench.parses.grammar(3), 0);
        bench.parses.feed(0x20202080, 0, 0, 0, 0);
        Bench.due("grammar(4) with byte 128", bench.parses.grammar(4), -9);
        Bench.due("fault() of byte 128 behind", bench.parses.fault(), 3);
    }

    private static void lengthOfGrammar() {
        Bench.edge(3, "n is not 0 to the TAPE's bytes: the TAPE is empty");
        Bench bench = new Bench();
        PrunedParses parses = bench.parses;
        bench.refuses("grammar(1)", () -> parses.grammar(1));
        bench.refuses("grammar(-1)", () -> parses.grammar(-1));
        Bench.due("grammar(0)", parses.grammar(0), 0);
        Bench.edge(3, "n is not 0 to the TAPE's bytes: below 0");
        bench.feed("rule 0;rule 1;     x");
        bench.refuses("grammar(-1)", () -> parses.grammar(-1));
        bench.refuses("grammar(least)", () -> parses.grammar(Integer.MIN_VALUE));
        Bench.edge(3, "n is not 0 to the TAPE's bytes: above them; the TAPE stays");
        bench.refuses("grammar(21)", () -> parses.grammar(21));
        bench.refuses("grammar(greatest)", () -> parses.grammar(Integer.MAX_VALUE));
        Bench.due("count(1)", parses.count(1), 20);
        Bench.due("grammar(20)", parses.grammar(20), -9);
        Bench.due("fault()", parses.fault(), 19);
        Bench.edge(3, "the first n bytes of the TAPE, which is empty then");
        int[] answers = {0, -9, -9, -9, -9, -9, -9, 1, -9, -9, -9, -9, -9, -9, 2};
        int[] faults = {-1, 0, 0, 0, 4, 5, 6, -1, 7, 7, 7, 11, 12, 13, -1};
        for (int n = 0; n < answers.length; n++) {
            bench.feed("rule 0;rule 1;     x");
            Bench.due("grammar(" + n + ")", parses.grammar(n), answers[n]);
            Bench.due("fault() of grammar(" + n + ")", parses.fault(), faults[n]);
            Bench.due("count(1)", parses.count(1), 0);
        }
        Bench.edge(3, "a GRAMMAR is a text of up to 600 bytes");
        String body = Bench.times("rule 0 'abcdefgh';", 20);
        Bench.good(body + Bench.times(" ", 600 - body.length()), 20);
        Bench.good(Bench.times(" ", 600 - body.length()) + body, 20);
        Bench.good(Bench.times(" ", 600), 0);
        Bench.bad(Bench.times(" ", 599) + "?", 1, 599, 0);
        Bench.bad(Bench.times(" ", 600 - body.length()) + body.substring(0, body.length() - 1) + " ", 1, 600, 19);
        Bench.bad(Bench.times(" ", 595) + "class", 1, 600, 0);
        Bench.bad("rule 0 '" + Bench.times("a", 592), 1, 600, 0);
        Bench.bad("rule 0 '" + Bench.times("a", 591) + "'", 2, 599, 0);
        Bench.good("rule " + Bench.times("0", 594) + ";", 1);
        Bench.bad("rule " + Bench.times("0", 593) + "8;", 2, 5, 0);
        Bench.bad(Bench.times("r", 600), 1, 0, 0);
        Bench.good("class [" + Bench.times("a-b", 197) + "];", 0);
        Bench.good("class [a]" + Bench.times("|[b]", 147) + "  ;", 0);
    }

    private static void whatGrammarAnswers() {
        Bench.edge(3, "how many PRODUCTIONS: none, one, all 20");
        Bench.good("class [a];", 0);
        Bench.good("rule 0;", 1);
        Bench.good("token 0;", 1);
        Bench.good(FULL, 20);
        Bench.edge(3, "or the FAULT less 10");
        Bench.bad("?", 1, 0, 0);
        Bench.bad("rule 8;", 2, 5, 0);
        Bench.bad("class ~~~~~~~", 3, 12, 0);
        Bench.bad("drop 0 1;drop 1 0;", 4, 0, 0);
    }

    /** A TEXT, a LAW, an IMAGE, a WORK to be undone, a STEP that was REFUSED. */
    private static Bench worked() {
        Bench bench = Bench.with("class [a];token 0 #0;lay #0;").type("a");
        bench.work("cut 9 1;");
        bench.law("5");
        bench.parses.image();
        return bench;
    }

    private static void whatStaysAndGoes() {
        Bench.edge(3, "behind a FAULT all but the TAPE stays");
        Bench bench = worked();
        bench.grammarFault("rule 1;rule 2;rule 3 'x' #0", 2, 26, 2);
        int[] told = {1, 1, 0, 0, 0, 0, 0, 1, 1, 1};
        for (int what = 0; what < 10; what++) Bench.due("told(" + what + ")", bench.parses.told(what), told[what]);
        Bench.due("worth(0)", bench.parses.worth(0), 5);
        Bench.due("count(0)", bench.parses.count(0), 1);
        Bench.due("count(2)", bench.parses.count(2), 2);
        bench.textIs("a");
        Bench.edge(3, "behind FAULT 4, too");
        bench.grammarFault("drop 0 1;drop 1 0;rule 3 'x';", 4, 0, 0);
        for (int what = 0; what < 10; what++) Bench.due("told(" + what + ")", bench.parses.told(what), told[what]);
        Bench.due("is(0, 0, 1)", bench.parses.is(0, 0, 1), true);
        Bench.due("sort(0, 5)", bench.parses.sort(0, 5), 0);
        Bench.edge(3, "when n is refused, even the TAPE stays");
        bench.feed("rule 1;");
        bench.refuses("grammar(21)", () -> bench.parses.grammar(21));
        Bench.due("count(1)", bench.parses.count(1), 20);
        Bench.due("fault()", bench.parses.fault(), 0);
        bench.textIs("a");
        Bench.edge(3, "without a FAULT: an empty TEXT; no LAW, IMAGES, nothing to undo");
        Bench.due("grammar(7)", bench.parses.grammar(7), 1);
        int[] anew = {0, 1, 0, 0, 0, -1, 0, 1 << 1, 0, 0};
        for (int what = 0; what < 10; what++) Bench.due("told(" + what + ")", bench.parses.told(what), anew[what]);
        Bench.due("worth(1)", bench.parses.worth(1), 1);
        for (int what = 0; what < 3; what++) Bench.due("count(" + what + ")", bench.parses.count(what), 0);
        Bench.due("undo()", bench.parses.undo(), -1);
        Bench.due("restore()", bench.parses.restore(), -1);
        Bench.edge(3, "of no bytes: a GRAMMAR without CLAUSES");
        Bench none = worked();
        Bench.due("grammar(0)", none.parses.grammar(0), 0);
        for (int what = 0; what < 10; what++) Bench.due("told(" + what + ")", none.parses.told(what), what == 5 ? -1 : 0);
        Bench.due("undo()", none.parses.undo(), -1);
        Bench.due("restore()", none.parses.restore(), -1);
    }

    /** Each as unlike the others as can be. */
    private static final String[] GRAMMARS = {
        "class [a-m];class ~#0;rule 0 'ab' @1 #0;rule 1;token 1 @0 'b';quote 2 1 '<>!';quote 5 0 '()?';not 1 #0;not 0 #1;drop 3 0;drop 6 3;lay #0;rule 7 @3 @6;",
        "class [0-9];token 1 #0;", "rule 4 @5 @5 @5 'c';rule 5;token 6 'a' 'b' 'c' 'd';drop 4 2;", "",
        "class [a-z];class [(];class [)];token 0 #0;quote 1 0 '()!';token 3 #1 #0 #2;lay #2;", "token 0 @1;token 1 'a';"};

    private static void nothingOfOthers() {
        Bench.edge(3, "nothing stays of the GRAMMARS ahead, with a FAULT or without");
        for (int last = 0; last < GRAMMARS.length; last++) {
            for (int first = 0; first < GRAMMARS.length; first++) {
                Bench bench = new Bench();
                bench.grammar(GRAMMARS[first]);
                bench.type("(a)");
                bench.parses.told(7);
                String faulty = GRAMMARS[(first + last) % GRAMMARS.length];
                bench.grammar(faulty + "rule 0 'x' @9;");
                bench.grammar(faulty + "drop 1 2;drop 2 1;");
                bench.grammar(GRAMMARS[(first + 1) % GRAMMARS.length]);
                bench.grammar(GRAMMARS[last]);
                bench.type("(a)");
                Bench fresh = Bench.with(GRAMMARS[last]).type("(a)");
                answersAlike(bench, fresh, GRAMMARS[last] + " behind " + GRAMMARS[first]);
            }
        }
    }

    private static void answersAlike(Bench bench, Bench fresh, String name) {
        int[] answers = Bench.answers(bench.parses);
        int[] due = Bench.answers(fresh.parses);
        for (int k = 0; k < due.length; k++) Bench.due("answer " + k + " of " + name, answers[k], due[k]);
    }

    private static void clauses() {
        Bench.edge(3, "at most 60 CLAUSES, all limits come to at once");
        Bench bench = new Bench();
        Bench.due("the full GRAMMAR", bench.grammar(FULL), 20);
        int[] told = {8, 20, 4, 8, 8, 6, 1};
        for (int what = 0; what < told.length; what++) Bench.due("told(" + what + ")", bench.parses.told(what), told[what]);
        Bench.edge(3, "at most 60 CLAUSES: the 61st is 3 at its word");
        for (String clause : new String[] {"class[a];", "rule0;", "token0;", "quote0 0'abc';", "not0#0;", "drop0 1;", "lay#0;", "lay", "lay#9"}) {
            Bench.bad(FULL + clause, 3, FULL.length(), 60);
            Bench.bad(FULL + "  " + clause, 3, FULL.length() + 2, 60);
        }
        String sixty = "class[];" + Bench.times("lay#0;", 59);
        Bench.good("class[];" + Bench.times("lay#0;", 58), 0);
        Bench.good(sixty, 0);
        Bench.good(sixty + "   ", 0);
        Bench.bad(sixty + "rule0;", 3, sixty.length(), 60);
        Bench.bad(sixty + "lay#0;lay#0;", 3, sixty.length(), 60);
        Bench.edge(3, "at most 60 CLAUSES: what is no CLAUSE is 1 there");
        Bench.bad(sixty + ";", 1, sixty.length(), 60);
        Bench.bad(sixty + "lays#0;", 1, sixty.length(), 60);
        Bench.bad(sixty + " 0", 1, sixty.length() + 1, 60);
        Bench.edge(3, "a fault in the 60th CLAUSE");
        String before = "class[];" + Bench.times("lay#0;", 58);
        Bench.bad(before + "lay#1;", 2, before.length() + 4, 59);
        Bench.bad(before + "lay#0", 1, before.length() + 5, 59);
        Bench.bad(before + "rule", 1, before.length() + 4, 59);
    }
}
