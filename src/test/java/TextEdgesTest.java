/** Boundary cases of promises 1 to 3, and of what Terms say of the text of a grammar: both sides of each. */
public final class TextEdgesTest {
    /** As full as can be: 60 CLAUSES, 8 CLASSES, 20 PRODUCTIONS, 4 QUOTES, 8 "not", 8 "drop". */
    private static final String FULL = Bench.times("class[a];", 8) + Bench.times("rule0;", 10) + Bench.times("token1;", 10)
        + Bench.times("quote0 0'abc';", 4) + Bench.times("not0#7;", 8) + Bench.times("drop0 7;", 8) + Bench.times("lay#6;", 12);

    public static void main(String[] args) {
        newObject();
        tape();
        tapeIsReadByBytes();
        lengthOfGrammar();
        whatGrammarAnswers();
        whatStaysAndGoes();
        nothingOfOthers();
        clauses();
        classes();
        productions();
        parts();
        quotes();
        nots();
        drops();
        lays();
        wordLengths();
        wordOfQuote();
        signsOfWords();
        signsOfBrackets();
        ranges();
        bytesOutside();
        numbers();
        names();
        blanks();
        cutShort();
        opens();
        faultsAheadOfTheEnd();
        opensOfOtherTexts();
        leastOfOnePlace();
        firstFromTheLeft();
        needsWhatDropsIt();
        Bench.closeEdges("TextEdgesTest", 1, 3);
    }

    private static void good(String text, int productions) {
        Bench bench = new Bench();
        Bench.due("grammar " + text, bench.grammar(text), productions);
        Bench.due("fault() of grammar " + text, bench.parses.fault(), -1);
        Bench.due("faulted() of grammar " + text, bench.parses.faulted(), -1);
    }

    private static void bad(String text, int kind, int place, int clause) {
        new Bench().grammarFault(text, kind, place, clause);
    }

    private static void newObject() {
        Bench.edge(1, "a GRAMMAR without CLAUSES");
        Bench bench = new Bench();
        PrunedParses parses = bench.parses;
        int[] told = {0, 0, 0, 0, 0, -1, 0};
        for (int what = 0; what < told.length; what++) Bench.due("told(" + what + ")", parses.told(what), told[what]);
        bench.misses("group(0, 0)", () -> parses.group(0, 0));
        bench.misses("production(0, 0)", () -> parses.production(0, 0));
        bench.misses("body(0, 0)", () -> parses.body(0, 0));
        for (int sort = 0; sort < 8; sort++) {
            int[] due = {0, 0, 0, -1, 0, 0};
            for (int what = 0; what < 6; what++) Bench.due("sort(" + sort + ", " + what + ")", parses.sort(sort, what), due[what]);
            Bench.due("is(" + sort + ", 0, 0)", parses.is(sort, 0, 0), false);
        }
        Bench.edge(1, "the TEXT is empty");
        Bench empty = new Bench();
        Bench.due("told(8)", empty.parses.told(8), 0);
        Bench.due("run(0)", empty.parses.run(0), 0);
        empty.misses("sign(0)", () -> empty.parses.sign(0));
        empty.misses("run(1)", () -> empty.parses.run(1));
        empty.refuses("is(0, 0, 1)", () -> empty.parses.is(0, 0, 1));
        Bench.edge(1, "nothing else is there");
        Bench other = new Bench();
        for (int what = 0; what < 3; what++) Bench.due("count(" + what + ")", other.parses.count(what), 0);
        for (int what = 0; what < 2; what++) Bench.due("status(" + what + ")", other.parses.status(what), 0);
        Bench.due("told(9)", other.parses.told(9), 0);
        Bench.due("fault()", other.parses.fault(), -1);
        Bench.due("faulted()", other.parses.faulted(), -1);
        Bench.due("undo()", other.parses.undo(), -1);
        Bench.due("restore()", other.parses.restore(), -1);
        Bench.edge(1, "used for at most 512 calls: the 512th is the last that answers as due");
        PrunedParses used = new PrunedParses();
        for (int call = 1; call < 511; call++) used.feed(0x72756c65, 0x20303b20, 0x20202020, 0x20202020, 0x20202020);
        Bench.due("grammar(600) as the 511th call", used.grammar(600), -7);
        Bench.due("fault() as the 512th call", used.fault(), 20 * 20);
        Bench.edge(1, "of its own, whatever other objects do");
        bench.grammar("rule 0;");
        bench.work("type 0 'a';");
        Bench.due("told(1)", other.parses.told(1), 0);
        Bench.due("told(8)", other.parses.told(8), 0);
    }

    private static void tape() {
        Bench.edge(2, "twenty bytes");
        PrunedParses parses = new Bench().parses;
        Bench.due("feed 1", parses.feed(0, 0, 0, 0, 0), 20);
        Bench.due("feed 2", parses.feed(-1, -1, -1, -1, -1), 40);
        Bench.edge(2, "NONE, if there would be more than 600");
        for (int k = 3; k < 30; k++) parses.feed(k, k, k, k, k);
        Bench.due("count(1)", parses.count(1), 580);
        Bench.due("feed 30", parses.feed(0, 0, 0, 0, 0), 600);
        Bench.due("feed 31", parses.feed(0, 0, 0, 0, 0), -1);
        Bench.due("feed 32", parses.feed(0, 0, 0, 0, 0), -1);
        Bench.due("count(1) behind NONE", parses.count(1), 600);
        Bench.edge(2, "doing nothing, if there would be more than 600");
        Bench bench = new Bench();
        bench.feed(FULL + Bench.times(" ", 600 - FULL.length()));
        Bench.due("feed 31", bench.parses.feed('?', '?', '?', '?', '?'), -1);
        Bench.due("fault()", bench.parses.fault(), -1);
        Bench.due("status(1)", bench.parses.status(1), 0);
        Bench.due("grammar(600)", bench.parses.grammar(600), 20);
        Bench.edge(2, "from 20 on again, when the TAPE is empty");
        Bench.due("feed behind grammar()", bench.parses.feed(0, 0, 0, 0, 0), 20);
        bench.parses.law(0);
        Bench.due("feed behind law()", bench.parses.feed(0, 0, 0, 0, 0), 20);
        bench.parses.work(0);
        Bench.due("feed behind work()", bench.parses.feed(0, 0, 0, 0, 0), 20);
    }

    /** Eleven blanks and a byte: the place of the fault tells where that byte was put. */
    private static void tapeIsReadByBytes() {
        Bench.edge(2, "of each number the highest first");
        for (int byteOfFive = 0; byteOfFive < 20; byteOfFive++) {
            Bench bench = new Bench();
            int[] numbers = new int[5];
            for (int k = 0; k < 20; k++) numbers[k / 4] = numbers[k / 4] << 8 | (k == byteOfFive ? 255 : 32);
            bench.parses.feed(numbers[0], numbers[1], numbers[2], numbers[3], numbers[4]);
            Bench.due("grammar(20)", bench.parses.grammar(20), -9);
            Bench.due("fault()", bench.parses.fault(), byteOfFive);
        }
        Bench.edge(2, "bytes of numbers that are negative");
        Bench bench = new Bench();
        bench.parses.feed(Integer.MIN_VALUE | 32 << 16, 0, 0, 0, 0);
        Bench.due("grammar(1) of byte 128", bench.parses.grammar(1), -9);
        Bench.due("fault() of byte 128", bench.parses.fault(), 0);
        bench.parses.feed(0x20202080, 0, 0, 0, 0);
        Bench.due("grammar(3) ahead of byte 128", bench.parses.grammar(3), 0);
        bench.parses.feed(0x20202080, 0, 0, 0, 0);
        Bench.due("grammar(4) with byte 128", bench.parses.grammar(4), -9);
        Bench.due("fault() of byte 128 behind", bench.parses.fault(), 3);
    }

    private static void lengthOfGrammar() {
        Bench.edge(3, "n is not 0 to the TAPE's bytes: the TAPE is empty");
        Bench bench = new Bench();
        PrunedParses parses = bench.parses;
        bench.refuses("grammar(1)", () -> parses.grammar(1));
        bench.refuses("grammar(-1)", () -> parses.grammar(-1));
        Bench.due("grammar(0)", parses.grammar(0), 0);
        Bench.edge(3, "n is not 0 to the TAPE's bytes: below 0");
        bench.feed("rule 0;rule 1;     x");
        bench.refuses("grammar(-1)", () -> parses.grammar(-1));
        bench.refuses("grammar(least)", () -> parses.grammar(Integer.MIN_VALUE));
        Bench.edge(3, "n is not 0 to the TAPE's bytes: above them; the TAPE stays");
        bench.refuses("grammar(21)", () -> parses.grammar(21));
        bench.refuses("grammar(greatest)", () -> parses.grammar(Integer.MAX_VALUE));
        Bench.due("count(1)", parses.count(1), 20);
        Bench.due("grammar(20)", parses.grammar(20), -9);
        Bench.due("fault()", parses.fault(), 19);
        Bench.edge(3, "the first n bytes of the TAPE, which is empty then");
        int[] answers = {0, -9, -9, -9, -9, -9, -9, 1, -9, -9, -9, -9, -9, -9, 2};
        int[] faults = {-1, 0, 0, 0, 4, 5, 6, -1, 7, 7, 7, 11, 12, 13, -1};
        for (int n = 0; n < answers.length; n++) {
            bench.feed("rule 0;rule 1;     x");
            Bench.due("grammar(" + n + ")", parses.grammar(n), answers[n]);
            Bench.due("fault() of grammar(" + n + ")", parses.fault(), faults[n]);
            Bench.due("count(1)", parses.count(1), 0);
        }
        Bench.edge(3, "a GRAMMAR is a text of up to 600 bytes");
        String body = Bench.times("rule 0 'abcdefgh';", 20);
        good(body + Bench.times(" ", 600 - body.length()), 20);
        good(Bench.times(" ", 600 - body.length()) + body, 20);
        good(Bench.times(" ", 600), 0);
        bad(Bench.times(" ", 599) + "?", 1, 599, 0);
        bad(Bench.times(" ", 600 - body.length()) + body.substring(0, body.length() - 1) + " ", 1, 600, 19);
        bad(Bench.times(" ", 595) + "class", 1, 600, 0);
        bad("rule 0 '" + Bench.times("a", 592), 1, 600, 0);
        bad("rule 0 '" + Bench.times("a", 591) + "'", 2, 599, 0);
        good("rule " + Bench.times("0", 594) + ";", 1);
        bad("rule " + Bench.times("0", 593) + "8;", 2, 5, 0);
        bad(Bench.times("r", 600), 1, 0, 0);
        good("class [" + Bench.times("a-b", 197) + "];", 0);
        good("class [a]" + Bench.times("|[b]", 147) + "  ;", 0);
    }

    private static void whatGrammarAnswers() {
        Bench.edge(3, "how many PRODUCTIONS: none, one, all 20");
        good("class [a];", 0);
        good("rule 0;", 1);
        good("token 0;", 1);
        good(FULL, 20);
        Bench.edge(3, "or the FAULT less 10");
        bad("?", 1, 0, 0);
        bad("rule 8;", 2, 5, 0);
        bad("class ~~~~~~~", 3, 12, 0);
        bad("drop 0 1;drop 1 0;", 4, 0, 0);
    }

    /** A TEXT, a LAW, an IMAGE, a WORK to be undone, a STEP that was REFUSED. */
    private static Bench worked() {
        Bench bench = Bench.with("class [a];token 0 #0;lay #0;").type("a");
        bench.work("cut 9 1;");
        bench.law("5");
        bench.parses.image();
        return bench;
    }

    private static void whatStaysAndGoes() {
        Bench.edge(3, "behind a FAULT all but the TAPE stays");
        Bench bench = worked();
        bench.grammarFault("rule 1;rule 2;rule 3 'x' #0", 2, 26, 2);
        int[] told = {1, 1, 0, 0, 0, 0, 0, 1, 1, 1};
        for (int what = 0; what < 10; what++) Bench.due("told(" + what + ")", bench.parses.told(what), told[what]);
        Bench.due("worth(0)", bench.parses.worth(0), 5);
        Bench.due("count(0)", bench.parses.count(0), 1);
        Bench.due("count(2)", bench.parses.count(2), 2);
        bench.textIs("a");
        Bench.edge(3, "behind FAULT 4, too");
        bench.grammarFault("drop 0 1;drop 1 0;rule 3 'x';", 4, 0, 0);
        for (int what = 0; what < 10; what++) Bench.due("told(" + what + ")", bench.parses.told(what), told[what]);
        Bench.due("is(0, 0, 1)", bench.parses.is(0, 0, 1), true);
        Bench.due("sort(0, 5)", bench.parses.sort(0, 5), 0);
        Bench.edge(3, "when n is refused, even the TAPE stays");
        bench.feed("rule 1;");
        bench.refuses("grammar(21)", () -> bench.parses.grammar(21));
        Bench.due("count(1)", bench.parses.count(1), 20);
        Bench.due("fault()", bench.parses.fault(), 0);
        bench.textIs("a");
        Bench.edge(3, "without a FAULT: an empty TEXT; no LAW, IMAGES, nothing to undo");
        Bench.due("grammar(7)", bench.parses.grammar(7), 1);
        int[] anew = {0, 1, 0, 0, 0, -1, 0, 1 << 1, 0, 0};
        for (int what = 0; what < 10; what++) Bench.due("told(" + what + ")", bench.parses.told(what), anew[what]);
        Bench.due("worth(1)", bench.parses.worth(1), 1);
        for (int what = 0; what < 3; what++) Bench.due("count(" + what + ")", bench.parses.count(what), 0);
        Bench.due("undo()", bench.parses.undo(), -1);
        Bench.due("restore()", bench.parses.restore(), -1);
        Bench.edge(3, "of no bytes: a GRAMMAR without CLAUSES");
        Bench none = worked();
        Bench.due("grammar(0)", none.parses.grammar(0), 0);
        for (int what = 0; what < 10; what++) Bench.due("told(" + what + ")", none.parses.told(what), what == 5 ? -1 : 0);
        Bench.due("undo()", none.parses.undo(), -1);
        Bench.due("restore()", none.parses.restore(), -1);
    }

    /** Each as unlike the others as can be. */
    private static final String[] GRAMMARS = {
        "class [a-m];class ~#0;rule 0 'ab' @1 #0;rule 1;token 1 @0 'b';quote 2 1 '<>!';quote 5 0 '()?';not 1 #0;not 0 #1;drop 3 0;drop 6 3;lay #0;rule 7 @3 @6;",
        "class [0-9];token 1 #0;", "rule 4 @5 @5 @5 'c';rule 5;token 6 'a' 'b' 'c' 'd';drop 4 2;", "",
        "class [a-z];class [(];class [)];token 0 #0;quote 1 0 '()!';token 3 #1 #0 #2;lay #2;", "token 0 @1;token 1 'a';"};

    private static void nothingOfOthers() {
        Bench.edge(3, "nothing stays of the GRAMMARS ahead, with a FAULT or without");
        for (int last = 0; last < GRAMMARS.length; last++) {
            for (int first = 0; first < GRAMMARS.length; first++) {
                Bench bench = new Bench();
                bench.grammar(GRAMMARS[first]);
                bench.type("(a)");
                bench.parses.told(7);
                String faulty = GRAMMARS[(first + last) % GRAMMARS.length];
                bench.grammar(faulty + "rule 0 'x' @9;");
                bench.grammar(faulty + "drop 1 2;drop 2 1;");
                bench.grammar(GRAMMARS[(first + 1) % GRAMMARS.length]);
                bench.grammar(GRAMMARS[last]);
                bench.type("(a)");
                Bench fresh = Bench.with(GRAMMARS[last]).type("(a)");
                answersAlike(bench, fresh, GRAMMARS[last] + " behind " + GRAMMARS[first]);
            }
        }
    }

    private static void answersAlike(Bench bench, Bench fresh, String name) {
        int[] answers = Bench.answers(bench.parses);
        int[] due = Bench.answers(fresh.parses);
        for (int k = 0; k < due.length; k++) Bench.due("answer " + k + " of " + name, answers[k], due[k]);
    }

    private static void clauses() {
        Bench.edge(3, "at most 60 CLAUSES, all limits come to at once");
        Bench bench = new Bench();
        Bench.due("the full GRAMMAR", bench.grammar(FULL), 20);
        int[] told = {8, 20, 4, 8, 8, 6, 1};
        for (int what = 0; what < told.length; what++) Bench.due("told(" + what + ")", bench.parses.told(what), told[what]);
        Bench.edge(3, "at most 60 CLAUSES: the 61st is 3 at its word");
        for (String clause : new String[] {"class[a];", "rule0;", "token0;", "quote0 0'abc';", "not0#0;", "drop0 1;", "lay#0;", "lay", "lay#9"}) {
            bad(FULL + clause, 3, FULL.length(), 60);
            bad(FULL + "  " + clause, 3, FULL.length() + 2, 60);
        }
        String sixty = "class[];" + Bench.times("lay#0;", 59);
        good("class[];" + Bench.times("lay#0;", 58), 0);
        good(sixty, 0);
        good(sixty + "   ", 0);
        bad(sixty + "rule0;", 3, sixty.length(), 60);
        bad(sixty + "lay#0;lay#0;", 3, sixty.length(), 60);
        Bench.edge(3, "at most 60 CLAUSES: what is no CLAUSE is 1 there");
        bad(sixty + ";", 1, sixty.length(), 60);
        bad(sixty + "lays#0;", 1, sixty.length(), 60);
        bad(sixty + " 0", 1, sixty.length() + 1, 60);
        Bench.edge(3, "a fault in the 60th CLAUSE");
        String before = "class[];" + Bench.times("lay#0;", 58);
        bad(before + "lay#1;", 2, before.length() + 4, 59);
        bad(before + "lay#0", 1, before.length() + 5, 59);
        bad(before + "rule", 1, before.length() + 4, 59);
    }

    private static void classes() {
        Bench.edge(3, "CLASSES, numbered from 0 on, 8 at most");
        String seven = Bench.times("class[a];", 7);
        good(seven + "class #6;rule 0 #7;", 1);
        bad(seven + "class #7;", 2, seven.length() + 7, 7);
        bad(seven + "class[a];class[a];", 3, seven.length() + 9, 8);
        bad(seven + "class[a]; class", 3, seven.length() + 10, 8);
        bad(seven + "class[a];classy[a];", 1, seven.length() + 9, 8);
        bad(seven + "class[a];rule0 #8;", 2, seven.length() + 16, 8);
        Bench.edge(3, "a CLASS told ahead");
        good("class [a];class #0;", 0);
        bad("class #0;", 2, 7, 0);
        bad("class [a];class #1;", 2, 17, 1);
        bad("class [a]|#0;", 2, 11, 0);
        bad("class (#0);", 2, 8, 0);
        bad("class ~#0;", 2, 8, 0);
        good("class [a];rule 0 #0;", 1);
        bad("rule 0 #0;class [a];", 2, 8, 0);
        bad("class [a];rule 0 #1;class [a];", 2, 18, 1);
        good("class [a];not 0 #0;lay #0;", 0);
        bad("not 0 #0;class [a];", 2, 7, 0);
        bad("lay #0;class [a];", 2, 5, 0);
        bad("class [a];lay #1;", 2, 15, 1);
        bad("class [a];not 0 #1;", 2, 17, 1);
    }

    private static void productions() {
        Bench.edge(3, "PRODUCTIONS, rules and tokens in one row, 20 at most");
        String nineteen = Bench.times("rule 0;", 9) + Bench.times("token 0;", 10);
        good(nineteen, 19);
        good(nineteen + "rule 7;", 20);
        good(nineteen + "token 7;", 20);
        for (String last : new String[] {"rule 7;", "token 7;"}) {
            int place = nineteen.length() + last.length();
            bad(nineteen + last + "rule 0;", 3, place, 20);
            bad(nineteen + last + " token 9", 3, place + 1, 20);
            bad(nineteen + last + "rules", 1, place, 20);
            good(nineteen + last + "drop 0 1;", 20);
        }
        Bench.edge(3, "SORT S, 0 to 7");
        for (String name : new String[] {"rule ", "token "}) {
            good(name + "0;", 1);
            good(name + "7;", 1);
            bad(name + "8;", 2, name.length(), 0);
            bad(name + "-1;", 1, name.length(), 0);
        }
    }

    private static void parts() {
        Bench.edge(3, "of 4 EL at most: none, one, four");
        Bench bench = Bench.with("class [a];rule 0;rule 0 #0;token 0 @1;token 0 'a';rule 0 #0 @1 'b' #0;");
        int[] due = {0, 1, 1, 1, 4};
        for (int k = 0; k < due.length; k++) Bench.due("production(" + k + ", 2)", bench.parses.production(k, 2), due[k]);
        Bench.edge(3, "a 5th EL is 3 at it");
        bad("rule 0 @1 @1 @1 @1 @1;", 3, 19, 0);
        bad("class [a];rule 0#0#0#0#0#0;", 3, 24, 1);
        bad("token 0'a''b''c''d''e';", 3, 19, 0);
        bad("token 0'a''b''c''d'@", 3, 19, 0);
        bad("token 0'a''b''c''d' #9", 3, 20, 0);
        bad("token 0'a''b''c''d'''", 3, 19, 0);
        Bench.edge(3, "behind four EL what is none");
        bad("token 0'a''b''c''d'0;", 1, 19, 0);
        bad("token 0'a''b''c''d'", 1, 19, 0);
        bad("token 0'a''b''c''d'[", 1, 19, 0);
        Bench.edge(3, "EL: @ S, 0 to 7");
        good("rule 0 @0;", 1);
        good("rule 0 @7;", 1);
        bad("rule 0 @8;", 2, 8, 0);
        bad("rule 0 @;", 1, 8, 0);
        bad("rule 0 @1@;", 1, 10, 0);
    }

    private static void quotes() {
        Bench.edge(3, "QUOTES, 4 at most");
        String three = Bench.times("quote 0 0 'abc';", 3);
        good(three, 0);
        good(three + "quote 7 7 'abc';", 0);
        bad(three + "quote 7 7 'abc';quote 0 0 'abc';", 3, 64, 4);
        bad(three + "quote 7 7 'abc';  quote", 3, 66, 4);
        bad(three + "quote 7 7 'abc';quotes", 1, 64, 4);
        good(three + "quote 7 7 'abc';rule 0;", 1);
        Bench.edge(3, "quote S T: 0 to 7 each");
        good("quote 0 7 'abc';", 0);
        good("quote 7 0 'abc';", 0);
        bad("quote 8 0 'abc';", 2, 6, 0);
        bad("quote 0 8 'abc';", 2, 8, 0);
        good("quote 3 3 'abc';", 0);
    }

    private static void nots() {
        Bench.edge(3, "not, 8 at most");
        String seven = "class[a];" + Bench.times("not 0 #0;", 7);
        good(seven, 0);
        good(seven + "not 7 #0;", 0);
        bad(seven + "not 7 #0;not 0 #0;", 3, 81, 9);
        bad(seven + "not 7 #0; not", 3, 82, 9);
        bad(seven + "not 7 #0;nots", 1, 81, 9);
        good(seven + "not 7 #0;rule 0;", 1);
        Bench.edge(3, "not S: 0 to 7");
        bad("class[a];not 8 #0;", 2, 13, 1);
        good("class[a];not 0 #0;", 0);
    }

    private static void drops() {
        Bench.edge(3, "drop, 8 at most");
        String seven = Bench.times("drop 0 7;", 7);
        good(seven, 0);
        good(seven + "drop 7 6;", 0);
        bad(seven + "drop 7 6;drop 0 1;", 3, 72, 8);
        bad(seven + "drop 7 6; drop", 3, 73, 8);
        bad(seven + "drop 7 6;drops", 1, 72, 8);
        good(seven + "drop 7 6;rule 0;", 1);
        Bench.edge(3, "drop S T, T not S");
        good("drop 0 1;", 0);
        good("drop 7 6;", 0);
        for (int sort = 0; sort < 8; sort++) bad("drop " + sort + " " + sort + ";", 2, 7, 0);
        bad("drop 0  00;", 2, 8, 0);
        bad("drop 8 8;", 2, 5, 0);
        bad("drop 7 8;", 2, 7, 0);
    }

    private static void lays() {
        Bench.edge(3, "lay: the last counts; none without");
        Bench bench = Bench.with("class[a];rule 0;");
        Bench.due("told(5) without", bench.parses.told(5), -1);
        bench.grammar("class[a];class[b];lay #1;");
        Bench.due("told(5) of one", bench.parses.told(5), 1);
        bench.grammar("class[a];class[b];lay #1;lay #0;");
        Bench.due("told(5) of two", bench.parses.told(5), 0);
        bench.grammar("class[a];class[b];lay #0;rule 0;lay #1;lay #0;lay #1;");
        Bench.due("told(5) of four", bench.parses.told(5), 1);
        bench.grammarFault("class[a];class[b];lay #0;lay #2;", 2, 30, 3);
        Bench.due("told(5) behind a FAULT", bench.parses.told(5), 1);
        bench.grammar("rule 0;");
        Bench.due("told(5) without one again", bench.parses.told(5), -1);
    }

    private static void wordLengths() {
        Bench.edge(3, "WORD: 1 to 8 SIGNS; of none 1 at the second '");
        bad("token 0 '';", 1, 9, 0);
        good("token 0 'a';", 1);
        good("token 0 '12345678';", 1);
        Bench.edge(3, "WORD: 1 to 8 SIGNS; a longer one 2 at its closing '");
        bad("token 0 '123456789';", 2, 18, 0);
        bad("token 0 '123456789'", 2, 18, 0);
        bad("token 0 '123456789abcdefgh'@9;", 2, 26, 0);
        Bench.edge(3, "WORD without a closing ': 1 at the length");
        bad("token 0 '", 1, 9, 0);
        bad("token 0 'a", 1, 10, 0);
        bad("token 0 '12345678", 1, 17, 0);
        bad("token 0 '123456789", 1, 18, 0);
        bad("token 0 '123456789;", 1, 19, 0);
        Bench.edge(3, "WORD: escaped SIGNS are one each");
        good("token 0 '\\1\\2\\3\\4\\5\\6\\7\\8';", 1);
        bad("token 0 '\\1\\2\\3\\4\\5\\6\\7\\89';", 2, 26, 0);
        good("token 0 '\\'\\'\\'\\'\\'\\'\\'\\'';", 1);
        bad("token 0 '\\'", 1, 11, 0);
        bad("token 0 '\\", 1, 10, 0);
        Bench bench = Bench.with("token 0 '\\1\\2\\3\\4\\5\\6\\7\\8';token 1 '\\\\';").type("12345678");
        Bench.due("is(0, 0, 8)", bench.parses.is(0, 0, 8), true);
        bench.type("\\");
        Bench.due("is(1, 0, 1)", bench.parses.is(1, 0, 1), true);
    }

    private static void wordOfQuote() {
        Bench.edge(3, "WORD of a QUOTE, of just three SIGNS: else 2 at its closing '");
        good("quote 0 0 'abc';", 0);
        bad("quote 0 0 'a';", 2, 12, 0);
        bad("quote 0 0 'ab';", 2, 13, 0);
        bad("quote 0 0 'abcd';", 2, 15, 0);
        bad("quote 0 0 '12345678';", 2, 19, 0);
        bad("quote 0 0 '123456789';", 2, 20, 0);
        Bench.edge(3, "WORD of a QUOTE without a closing ': 1 at the length");
        bad("quote 0 0 'ab", 1, 13, 0);
        bad("quote 0 0 'abc", 1, 14, 0);
        bad("quote 0 0 'abb", 1, 14, 0);
        bad("quote 0 0 'abcd;", 1, 16, 0);
        Bench.edge(3, "WORD of a QUOTE, of none: 1 at the second '");
        bad("quote 0 0 '';", 1, 11, 0);
        Bench.edge(3, "WORD of a QUOTE, the third one unlike both others: else 2 at its beginning");
        good("quote 0 0 'aab';", 0);
        bad("quote 0 0 'aba';", 2, 10, 0);
        bad("quote 0 0 'baa';", 2, 10, 0);
        bad("quote 0 0 'aaa';", 2, 10, 0);
        bad("quote 0 0   'aba'", 2, 12, 0);
        bad("quote 0 0 '\\a\\ba';", 2, 10, 0);
        Bench.edge(3, "WORD of a QUOTE: not of three comes ahead of alike ones");
        bad("quote 0 0 'abab';", 2, 15, 0);
        bad("quote 0 0 'aa';", 2, 13, 0);
        Bench.edge(3, "WORD of a QUOTE with SIGNS that are escaped");
        good("quote 0 0 '\\'\\'\\\\';", 0);
        good("quote 0 0 '[] ';", 0);
        bad("quote 0 0 '\\'\\'\\'';", 2, 10, 0);
    }

    /** What a byte that can't stand there does: it is 1 at it. */
    private static void signsOfWords() {
        Bench.edge(3, "SG in a WORD: each SIGN but ' and \\, bytes 32 to 126");
        for (int sign = 0; sign < 256; sign++) {
            String text = "token 0 '" + (char) sign + "';";
            if (sign == '\'') bad(text, 1, 9, 0);
            else if (sign == '\\') bad(text, 1, 12, 0);
            else if (sign < 32 || sign > 126) bad(text, 1, 9, 0);
            else isWord(text, sign);
        }
        Bench.edge(3, "SG in a WORD: \\ and any SIGN behind it");
        for (int sign = 0; sign < 256; sign++) {
            String text = "token 0 '\\" + (char) sign + "';";
            if (sign < 32 || sign > 126) bad(text, 1, 10, 0);
            else isWord(text, sign);
        }
    }

    private static void isWord(String text, int sign) {
        good(text, 1);
        Bench bench = Bench.with(text).type("" + (char) sign);
        Bench.due("is(0, 0, 1) by " + text, bench.parses.is(0, 0, 1), true);
        Bench.due("begins(0, " + sign + ") by " + text, bench.parses.begins(0, sign), true);
        Bench.due("sort(0, 2) by " + text, bench.parses.sort(0, 2), 1);
    }

    private static void signsOfBrackets() {
        Bench.edge(3, "SG in [ ]: each SIGN but \\ ] - and no blank, bytes 33 to 126");
        for (int sign = 0; sign < 256; sign++) {
            String text = "class [" + (char) sign + "];";
            if (sign == ']') bad(text, 1, 8, 0);
            else if (sign == '\\') bad(text, 1, 10, 0);
            else if (sign < 33 || sign > 126 || sign == '-') bad(text, 1, 7, 0);
            else isClass(text, sign);
        }
        Bench.edge(3, "SG in [ ]: \\ and any SIGN behind it");
        for (int sign = 0; sign < 256; sign++) {
            String text = "class [\\" + (char) sign + "];";
            if (sign < 32 || sign > 126) bad(text, 1, 8, 0);
            else isClass(text, sign);
        }
        Bench.edge(3, "[ ] of no SG, of many");
        good("class [];", 0);
        good("class [abcabc];", 0);
        bad("class [", 1, 7, 0);
        bad("class [abc", 1, 10, 0);
        bad("class [abc\\", 1, 11, 0);
    }

    private static void isClass(String text, int sign) {
        Bench bench = Bench.with(text);
        Bench.due("group(0, 0) by " + text, bench.parses.group(0, 0), 1);
        Bench.due("group(0, 1) by " + text, bench.parses.group(0, 1), sign);
    }

    private static void ranges() {
        Bench.edge(3, "the second one not below the first: else 2 at it");
        Bench bench = Bench.with("class [b-b];class [b-c];class [\\ -~];class [\\ -!];class [}-~];class [0-9a-fA-F];");
        int[] many = {1, 2, 95, 2, 2, 22};
        for (int k = 0; k < many.length; k++) Bench.due("group(" + k + ", 0)", bench.parses.group(k, 0), many[k]);
        bad("class [b-a];", 2, 9, 0);
        bad("class [c-a];", 2, 9, 0);
        bad("class [~-}];", 2, 9, 0);
        bad("class [ab-a", 2, 10, 0);
        bad("class [\\b-a];", 2, 10, 0);
        Bench.edge(3, "a - that has no SG on one side");
        bad("class [-a];", 1, 7, 0);
        bad("class [a-];", 1, 9, 0);
        bad("class [a-b-c];", 1, 10, 0);
        bad("class [a--];", 1, 9, 0);
        bad("class [a- b];", 1, 9, 0);
        bad("class [a -b];", 1, 8, 0);
        bad("class [a-", 1, 9, 0);
        bad("class [a-\u007f];", 1, 9, 0);
        Bench.edge(3, "a - that is escaped is a SIGN");
        bench = Bench.with("class [a\\-c];class [+-\\-];class [\\--/];class [\\]-_];class [\\[-\\]];");
        int[] more = {3, 3, 3, 3, 3};
        for (int k = 0; k < more.length; k++) Bench.due("group(" + k + ", 0)", bench.parses.group(k, 0), more[k]);
    }

    private static void bytesOutside() {
        Bench.edge(3, "behind a CLAUSE blanks alone, and the next one");
        for (int sign = 0; sign < 256; sign++) {
            String text = "rule 0;" + (char) sign;
            if (sign == ' ') good(text, 1);
            else bad(text, 1, 7, 1);
        }
        Bench.edge(3, "behind a number of a rule");
        for (int sign = 0; sign < 256; sign++) {
            String text = "rule 0" + (char) sign;
            boolean goesOn = "#@' 01234567".indexOf(sign) >= 0;
            if (sign == ';') good(text, 1);
            else if (sign == '8' || sign == '9') bad(text, 2, 5, 0);
            else bad(text, 1, goesOn ? 7 : 6, 0);
        }
    }

    private static void numbers() {
        Bench.edge(3, "numbers: digits, as many as stand there");
        good("rule 00000000000000000000007;", 1);
        good("rule 7@0000;", 1);
        bad("rule 70;", 2, 5, 0);
        bad("rule 00000000000000000000008;", 2, 5, 0);
        bad("rule 10000000000000000000000;", 2, 5, 0);
        Bench.edge(3, "numbers too great for 32 and 64 bits are none such");
        for (String number : new String[] {"4294967296", "4294967295", "2147483648", "18446744073709551616", "9223372036854775808", "99999999999"}) {
            bad("rule " + number + ";", 2, 5, 0);
            bad("rule 0 @" + number + ";", 2, 8, 0);
            bad("class [a];lay #" + number + ";", 2, 15, 1);
        }
        Bench.edge(3, "no digit where a number is due: 1 at what stands there");
        bad("rule ;", 1, 5, 0);
        bad("rule a;", 1, 5, 0);
        bad("rule +1;", 1, 5, 0);
        bad("rule /;", 1, 5, 0);
        bad("rule :;", 1, 5, 0);
        bad("class [a];rule 0 #;", 1, 18, 1);
        bad("drop 1;", 1, 6, 0);
        bad("quote 1 'abc';", 1, 8, 0);
    }

    private static void names() {
        Bench.edge(3, "names: small letters, as many as stand there");
        good("rule0;token0;class[a];not0#0;drop0 1;lay#0;quote0 0'abc';", 2);
        bad("rules 0;", 1, 0, 0);
        bad("rul 0;", 1, 0, 0);
        bad("ruleclass [a];", 1, 0, 0);
        bad("ruLe 0;", 1, 0, 0);
        bad("Rule 0;", 1, 0, 0);
        bad("rule0;  laz #0;", 1, 8, 1);
        for (String name : new String[] {"class", "rule", "token", "quote", "not", "drop", "lay"}) {
            bad(name + "z 0;", 1, 0, 0);
            bad(name.substring(1) + " 0;", 1, 0, 0);
            bad(name.substring(0, name.length() - 1) + " 0;", 1, 0, 0);
            bad(name, 1, name.length(), 0);
            bad(name + "  ", 1, name.length() + 2, 0);
        }
        Bench.edge(3, "names: bytes just beside the small letters end them");
        bad("rule`0;", 1, 4, 0);
        bad("rule{0;", 1, 4, 0);
        bad("`rule 0;", 1, 0, 0);
    }

    private static final String[] TOKENS = {"class", "[a]", "|", "~", "(", "[b]", "&", "[c]", "-", "[d]", ")", ";", "class", "#", "0", ";",
        "rule", "0", "#", "1", "@", "2", "'x y'", ";", "token", "1", ";", "quote", "1", "2", "'<>!'", ";",
        "not", "0", "#", "0", ";", "drop", "3", "4", ";", "lay", "#", "1", ";"};

    private static boolean isNumber(String token) {
        return token.charAt(0) >= '0' && token.charAt(0) <= '9';
    }

    private static void blanks() {
        Bench.edge(3, "blanks may stand ahead of all names, numbers and signs, and at the end; none must");
        StringBuilder wide = new StringBuilder();
        StringBuilder narrow = new StringBuilder();
        for (int k = 0; k < TOKENS.length; k++) {
            wide.append("  ").append(TOKENS[k]);
            if (k > 0 && isNumber(TOKENS[k]) && isNumber(TOKENS[k - 1])) narrow.append(' ');
            narrow.append(TOKENS[k]);
        }
        good(wide + "  ", 2);
        good(narrow.toString(), 2);
        Bench.edge(3, "no other byte may stand where a blank may");
        for (int gap = 0; gap <= TOKENS.length; gap++) {
            StringBuilder text = new StringBuilder();
            int clause = 0;
            for (int k = 0; k < gap; k++) {
                text.append(' ').append(TOKENS[k]);
                if (TOKENS[k].equals(";")) clause++;
            }
            for (char sign : new char[] {9, 10, 13, 0, 31, 127, 160}) bad(text.toString() + sign, 1, text.length(), clause);
        }
        Bench.edge(3, "no blanks within names, numbers, [ ]; in a WORD they are SIGNS");
        bad("ru le 0;", 1, 0, 0);
        bad("rule 0 @0 0;", 1, 10, 0);
        bad("class [a b];", 1, 8, 0);
        bad("class [ a];", 1, 7, 0);
        bad("class [a ];", 1, 8, 0);
        bad("class [ ];", 1, 7, 0);
        Bench bench = Bench.with("token 0 ' a ';").type(" a ");
        Bench.due("is(0, 0, 3)", bench.parses.is(0, 0, 3), true);
    }

    /** Each text that ends too early is 1 at its length, but a name that is cut short is none. */
    private static void cutShort() {
        Bench.edge(3, "1 at the length, if the text ends too early");
        StringBuilder whole = new StringBuilder();
        int clause = 0;
        for (String token : TOKENS) {
            boolean name = token.charAt(0) >= 'a' && token.charAt(0) <= 'z';
            whole.append(' ');
            for (int n = 0; n <= token.length(); n++) {
                String text = whole + token.substring(0, n);
                boolean done = n == token.length() && token.equals(";");
                boolean ended = name && n == 0 || done;
                if (ended && !done) good(text, clause < 3 ? 0 : clause == 3 ? 1 : 2);
                else if (!done && name && n < token.length()) bad(text, 1, whole.length(), clause);
                else if (!done) bad(text, 1, text.length(), clause);
            }
            whole.append(token);
            if (token.equals(";")) clause++;
            if (token.equals(";")) good(whole.toString(), clause < 3 ? 0 : clause == 3 ? 1 : 2);
        }
    }

    private static void opens() {
        Bench.edge(3, "a 7th ( that is open at one time");
        good("class ((((([a])))));", 0);
        good("class (((((([a]))))));", 0);
        bad("class ((((((([a])))))));", 3, 12, 0);
        bad("class (((((((", 3, 12, 0);
        bad("class ((((((?", 1, 12, 0);
        Bench.edge(3, "a 7th ~ that is open at one time");
        good("class ~~~~~~[a];", 0);
        bad("class ~~~~~~~[a];", 3, 12, 0);
        bad("class ~~~~~~~", 3, 12, 0);
        bad("class ~~~~~~?", 1, 12, 0);
        Bench.edge(3, "a 7th of both together");
        good("class ~(~(~([a])));", 0);
        bad("class ~(~(~(~[a])));", 3, 12, 0);
        bad("class ~(~(~(([a]))));", 3, 12, 0);
        good("class (~~~~~[a]);", 0);
        bad("class (~~~~~~[a]);", 3, 12, 0);
        good("class ~((((([a])))));", 0);
        bad("class ~(((((([a]))))));", 3, 12, 0);
        Bench.edge(3, "a ~ is open until its CT ends, a ( until its )");
        good("class ~~~~~~[a]|~~~~~~[b]&~~~~~~[c];", 0);
        good("class (((((([a]))))))|(((((([b]))))));", 0);
        good("class ~~~~~~[];class ~~~~~~#0|~~~~~~#0;", 0);
        good("class (((((~[a]|~[b]-~[c])))));", 0);
        bad("class (((((~[a]|~~[b])))));", 3, 17, 0);
        good("class (((((([a]))))|(([b]))))|~~~~~~[c];", 0);
        bad("class (((((([a]))))|((([b]))|(((([c]", 3, 32, 0);
        Bench.edge(3, "in one CLASS none are open from the one ahead");
        good("class ~~~~~~[a];class ~~~~~~[a];class (((((([a]))))));", 0);
    }

    private static void faultsAheadOfTheEnd() {
        Bench.edge(3, "a FAULT is one, though a CLAUSE could end just behind it");
        bad("class;", 1, 5, 0);
        bad("class [ ;", 1, 7, 0);
        bad("class [a- ;", 1, 9, 0);
        bad("class #0;", 2, 7, 0);
        bad("class ~;", 1, 7, 0);
        bad("class [a]|;", 1, 10, 0);
        bad("class ([a];", 1, 10, 0);
        bad("rule;", 1, 4, 0);
        bad("rule 8;", 2, 5, 0);
        bad("rule 0 #;", 1, 8, 0);
        bad("rule 0 #0;", 2, 8, 0);
        bad("rule 0 @8;", 2, 8, 0);
        bad("quote;", 1, 5, 0);
        bad("quote 8;", 2, 6, 0);
        bad("quote 0;", 1, 7, 0);
        bad("quote 0 8;", 2, 8, 0);
        bad("quote 0 0;", 1, 9, 0);
        bad("quote 8 0 'abc';", 2, 6, 0);
        bad("quote 0 0 'abcd';", 2, 15, 0);
        bad("quote 0 0 abc';", 1, 10, 0);
        bad("not;", 1, 3, 0);
        bad("not 8;", 2, 4, 0);
        bad("class [a];not 8 #0;", 2, 14, 1);
        bad("not 0;", 1, 5, 0);
        bad("not 0 #0;", 2, 7, 0);
        bad("drop;", 1, 4, 0);
        bad("drop 8;", 2, 5, 0);
        bad("drop 8 0;", 2, 5, 0);
        bad("drop 0;", 1, 6, 0);
        bad("drop 0 8;", 2, 7, 0);
        bad("lay;", 1, 3, 0);
        bad("lay #;", 1, 5, 0);
        bad("lay #0;", 2, 5, 0);
    }

    private static void opensOfOtherTexts() {
        Bench.edge(3, "none are open from the text ahead, whatever its FAULT was");
        Bench bench = new Bench();
        for (int round = 0; round < 3; round++) {
            bench.grammarFault("class ((((((?", 1, 12, 0);
            Bench.due("grammar", bench.grammar("class ~~~~~~[a];rule 0;"), 1);
            bench.grammarFault("class ~~~~~~~[a];", 3, 12, 0);
            Bench.due("law", bench.law("((((((1))))))"), 1);
            bench.lawFault("((((((1", 1, 7);
            Bench.due("work", bench.work(Bench.times("again1[", 6) + "cut 0 0;" + Bench.times("];", 6)), 0);
            bench.workFault(Bench.times("again1[", 6) + "cut", 1, 45, 0);
            Bench.due("grammar", bench.grammar("class (((((([a]))))));"), 0);
        }
    }

    private static void leastOfOnePlace() {
        Bench.edge(3, "of one place the least: 1 ahead of 2");
        bad("quote 0 0 '';", 1, 11, 0);
        Bench.edge(3, "of one place the least: 1 ahead of 3");
        bad(Bench.times("class[];", 8) + "classs", 1, 64, 8);
        bad(Bench.times("rule 0;", 20) + "rulers", 1, 140, 20);
        bad("class ~~~~~~+", 1, 12, 0);
        Bench.edge(3, "of one place the least: 3 where nothing less is");
        bad(Bench.times("class[];", 8) + "class", 3, 64, 8);
    }

    private static void firstFromTheLeft() {
        Bench.edge(3, "the first FAULT from the left, whatever its kind");
        bad("rule 8 @9;", 2, 5, 0);
        bad("rule 0 @9 @1 @1 @1 @1;", 2, 8, 0);
        bad("rule 0 @1 @1 @1 @1 @9;", 3, 19, 0);
        bad("rule 0 @1 @1 @1 @9 @1;", 2, 17, 0);
        bad("token 0 '123456789\u0007';", 1, 18, 0);
        bad("token 0 '123456789'?;", 2, 18, 0);
        bad("class [b-a]?", 2, 9, 0);
        bad("class ?[b-a]", 1, 6, 0);
        bad("quote 0 0 'aba'?", 2, 10, 0);
        bad("quote 0 8 'aba'", 2, 8, 0);
    }

    private static void needsWhatDropsIt() {
        Bench.edge(3, "FAULT 4: T NEEDS S by a PRODUCTION, a QUOTE, a drop");
        good("drop 0 1;rule 0 @1;rule 1 @2;", 2);
        bad("drop 0 1;rule 1 @0;", 4, 0, 0);
        bad("drop 0 1;token 1 'a' 'b' 'c' @0;", 4, 0, 0);
        good("drop 0 1;quote 0 1 'abc';", 0);
        bad("drop 0 1;quote 1 0 'abc';", 4, 0, 0);
        good("drop 0 1;drop 1 2;drop 0 2;", 0);
        bad("drop 0 1;drop 1 0;", 4, 0, 0);
        Bench.edge(3, "FAULT 4: T NEEDS S through all other SORTS");
        String chain = "drop 0 1;rule 1 @2;rule 2 @3;rule 3 @4;quote 4 5 'abc';rule 5 @6;drop 6 7;";
        good(chain + "rule 7 @7;", 5);
        bad(chain + "rule 7 @0;", 4, 0, 0);
        bad(chain + "rule 7 @6;", 4, chain.indexOf("drop 6"), 6);
        String back = "rule 7 @0;drop 6 7;rule 5 @6;rule 4 @5;rule 3 @4;rule 2 @3;rule 1 @2;drop 0 1;";
        bad(back, 4, 10, 1);
        Bench.edge(3, "FAULT 4: at the word of the first drop by which it is so");
        bad("drop 0 1;drop 2 3;drop 3 2;", 4, 9, 1);
        bad("  drop 3 2;drop 2 3;", 4, 2, 0);
        bad("drop 4 5;drop 0 1;drop 0 1;rule 1 @0;", 4, 9, 1);
        bad("rule 1 @0;rule 7;drop 4 5; drop 0 1;", 4, 27, 3);
        Bench.edge(3, "FAULT 4 behind all others");
        bad("drop 0 1;drop 1 0;?", 1, 18, 2);
        bad("drop 0 1;drop 1 0;rule 8;", 2, 23, 2);
        bad("drop 0 1;drop 1 0", 1, 17, 1);
        bad("drop 0 1;rule 1 @0;" + Bench.times("rule 1;", 20), 3, 9 + 10 + 19 * 7, 21);
        Bench.edge(3, "a SORT may need itself");
        good("rule 0 @0;quote 1 1 'abc';rule 2 @3;rule 3 @2;drop 4 0;drop 4 2;", 3);
    }
}
