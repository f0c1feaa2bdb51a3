/** Promises 3 to 7: which texts are read, and where the others fault. */
public final class FaultsTest {
    public static void main(String[] args) {
        clauses();
        numbers();
        words();
        brackets();
        classExpressions();
        counts();
        opened();
        drops();
        firstFault();
        laws();
        works();
        Bench.close("FaultsTest");
    }

    private static void clauses() {
        Bench.good("", 0);
        Bench.good("   ", 0);
        Bench.good("rule 0;", 1);
        Bench.good("rule0;token7@7;", 2);
        Bench.good("  rule  0  'a' @ 0 ; class [a] ; token 1 # 0 ;  ", 2);
        Bench.good("class[a];lay#0;lay # 0;not 0#0;drop 0 1;quote 0 1'abc';", 0);
        Bench.bad("class", 1, 5, 0);
        Bench.bad("class ", 1, 6, 0);
        Bench.bad("rule", 1, 4, 0);
        Bench.bad("rule 0", 1, 6, 0);
        Bench.bad("rule 0;;", 1, 7, 1);
        Bench.bad("rule 0;x", 1, 7, 1);
        Bench.bad("rule 0;rules 0;", 1, 7, 1);
        Bench.bad("Rule 0;", 1, 0, 0);
        Bench.bad("rulez 0;", 1, 0, 0);
        Bench.bad("tule 0;", 1, 0, 0);
        Bench.bad("rul 0;", 1, 0, 0);
        Bench.bad("rule 0 ;\t", 1, 8, 1);
        Bench.bad("rule 0 \n;", 1, 7, 0);
        Bench.bad("class [a] class [b];", 1, 10, 0);
        Bench.bad("rule x;", 1, 5, 0);
        Bench.bad("rule -1;", 1, 5, 0);
        Bench.bad("lay 0;", 1, 4, 0);
        Bench.bad("class [a];lay #;", 1, 15, 1);
        Bench.bad("not 0 0;", 1, 6, 0);
        Bench.bad("drop 0;", 1, 6, 0);
        Bench.bad("quote 0 'abc';", 1, 8, 0);
        Bench.bad("quote 0 1;", 1, 9, 0);
        Bench.bad("quote 0 1 'abc' 'abc';", 1, 16, 0);
        Bench.bad("rule 0 0;", 1, 7, 0);
        Bench.bad("rule 0 @;", 1, 8, 0);
    }

    private static void numbers() {
        Bench.good("rule 007;", 1);
        Bench.good("class [a];rule 0 #000;", 1);
        Bench.bad("rule 8;", 2, 5, 0);
        Bench.bad("rule 99999999999999999999;", 2, 5, 0);
        Bench.bad("rule 4294967296;", 2, 5, 0);
        Bench.bad("rule 0 @8;", 2, 8, 0);
        Bench.bad("rule 0 #0;", 2, 8, 0);
        Bench.bad("class [a];rule 0 # 1;", 2, 19, 1);
        Bench.bad("class #0;", 2, 7, 0);
        Bench.bad("class [a]|#0;class [b]|#1;", 2, 11, 0);
        Bench.bad("lay #0;", 2, 5, 0);
        Bench.bad("class [a];not 0 #1;", 2, 17, 1);
        Bench.bad("not 8 #0;", 2, 4, 0);
        Bench.bad("drop 8 0;", 2, 5, 0);
        Bench.bad("drop 0 8;", 2, 7, 0);
        Bench.bad("drop 1 1;", 2, 7, 0);
        Bench.bad("drop 1 01;", 2, 7, 0);
        Bench.bad("quote 8 0 'abc';", 2, 6, 0);
        Bench.bad("quote 0 8 'abc';", 2, 8, 0);
    }

    private static void words() {
        Bench.good("rule 0 '12345678';", 1);
        Bench.good("rule 0 '] - [';", 1);
        Bench.good("rule 0 '\\'\\\\\\ \\a';", 1);
        Bench.bad("rule 0 '';", 1, 8, 0);
        Bench.bad("rule 0 '", 1, 8, 0);
        Bench.bad("rule 0 'abc", 1, 11, 0);
        Bench.bad("rule 0 'abc\\", 1, 12, 0);
        Bench.bad("rule 0 'abc\\'", 1, 13, 0);
        Bench.bad("rule 0 'a\u0001';", 1, 9, 0);
        Bench.bad("rule 0 'a\u007f';", 1, 9, 0);
        Bench.bad("rule 0 'a\u00ff';", 1, 9, 0);
        Bench.bad("rule 0 'a\\\u001f';", 1, 10, 0);
        Bench.bad("rule 0 '123456789';", 2, 17, 0);
        Bench.bad("rule 0 '1234567890ab';", 2, 20, 0);
        Bench.bad("rule 0 '1234567890ab", 1, 20, 0);
        Bench.bad("rule 0 '1234567890\u0001ab';", 1, 18, 0);
        Bench.good("quote 0 0 'aab';", 0);
        Bench.good("quote 0 0 '\\'\\'\\\\';", 0);
        Bench.bad("quote 0 0 '';", 1, 11, 0);
        Bench.bad("quote 0 0 'ab';", 2, 13, 0);
        Bench.bad("quote 0 0 'abcd';", 2, 15, 0);
        Bench.bad("quote 0 0 'a\\bcd';", 2, 16, 0);
        Bench.bad("quote 0 0 '123456789';", 2, 20, 0);
        Bench.bad("quote 0 0 'ab", 1, 13, 0);
        Bench.bad("quote 0 0  'aba';", 2, 11, 0);
        Bench.bad("quote 0 0 'abb';", 2, 10, 0);
        Bench.bad("quote 0 0 'aaa';", 2, 10, 0);
    }

    private static void brackets() {
        Bench.good("class [];", 0);
        Bench.good("class ['[a-z()~#|&;,];", 0);
        Bench.good("class [\\]\\-\\\\\\ \\'];", 0);
        Bench.good("class [a-a];", 0);
        Bench.good("class [\\ -~];", 0);
        Bench.bad("class [", 1, 7, 0);
        Bench.bad("class [a", 1, 8, 0);
        Bench.bad("class [ a];", 1, 7, 0);
        Bench.bad("class [a ];", 1, 8, 0);
        Bench.bad("class [-a];", 1, 7, 0);
        Bench.bad("class [a-];", 1, 9, 0);
        Bench.bad("class [a-b-c];", 1, 10, 0);
        Bench.bad("class [a--b];", 1, 9, 0);
        Bench.bad("class [a-", 1, 9, 0);
        Bench.bad("class [a\\", 1, 9, 0);
        Bench.bad("class [\u00e9];", 1, 7, 0);
        Bench.bad("class [b-a];", 2, 9, 0);
        Bench.bad("class [b-\\a];", 2, 9, 0);
        Bench.bad("class [b-a", 2, 9, 0);
        Bench.bad("class [ab]];", 1, 10, 0);
    }

    private static void classExpressions() {
        Bench.good("class [a]|[b]&~[c]-([d]);", 0);
        Bench.good("class ~ ~ ( ( [a] ) | ~[b] ) ;", 0);
        Bench.bad("class ();", 1, 7, 0);
        Bench.bad("class ([a];", 1, 10, 0);
        Bench.bad("class ([a]", 1, 10, 0);
        Bench.bad("class [a]|;", 1, 10, 0);
        Bench.bad("class [a][b];", 1, 9, 0);
        Bench.bad("class [a]~[b];", 1, 9, 0);
        Bench.bad("class ~;", 1, 7, 0);
        Bench.bad("class [a]);", 1, 9, 0);
        Bench.bad("class a;", 1, 6, 0);
        Bench.bad("class 'a';", 1, 6, 0);
    }

    private static void counts() {
        Bench.good(Bench.times("rule 0;", 20), 20);
        Bench.bad(Bench.times("rule 0;", 20) + "token 0;", 3, 140, 20);
        Bench.bad(Bench.times("token 0;", 20) + "rule 0;", 3, 160, 20);
        Bench.bad(Bench.times("rule 0;", 20) + "tokens 0;", 1, 140, 20);
        Bench.bad(Bench.times("class [];", 8) + "  class ?", 3, 74, 8);
        Bench.bad(Bench.times("quote 0 0 'abc';", 4) + "quote 0 0 'abc';", 3, 64, 4);
        Bench.bad("class [];" + Bench.times("not 0#0;", 9), 3, 73, 9);
        Bench.bad(Bench.times("drop 0 1;", 9), 3, 72, 8);
        Bench.good("class [];" + Bench.times("lay#0;", 59), 0);
        Bench.bad("class [];" + Bench.times("lay#0;", 60), 3, 363, 60);
        Bench.bad("class [];" + Bench.times("lay#0;", 59) + "lays", 1, 363, 60);
        Bench.bad("class [];" + Bench.times("lay#0;", 59) + "?", 1, 363, 60);
        Bench.good("class [];" + Bench.times("lay#0;", 59) + "  ", 0);
        Bench.good("rule 0 @1 'a' @1 'b';", 1);
        Bench.bad("rule 0 @1 @1 @1 @1 @1;", 3, 19, 0);
        Bench.bad("rule 0 @1 @1 @1 @1 @9;", 3, 19, 0);
        Bench.bad("rule 0 @1 @1 @1 @1  '", 3, 20, 0);
        Bench.bad("rule 0 @1 @1 @1 @1  #0;", 3, 20, 0);
        Bench.bad("rule 0 @1 @1 @1 @1 x;", 1, 19, 0);
    }

    private static void opened() {
        Bench.good("class ~~~~~~[a];", 0);
        Bench.good("class ((((([a]|~[b])))));", 0);
        Bench.good("class ~[a]|~[a]|~[a]|~[a]|~[a]|~[a]|~[a];", 0);
        Bench.good("class ([a])|([a])|([a])|([a])|([a])|([a])|([a]);", 0);
        Bench.good("class [a]-([a]-([a]-([a]-([a]-([a]-([a]-[b]))))));", 0);
        Bench.bad("class ~~~~~~~[a];", 3, 12, 0);
        Bench.bad("class (((((((", 3, 12, 0);
        Bench.bad("class (~(~(~(", 3, 12, 0);
        Bench.bad("class ~([a]|~([a]|~([a]|~[a])));", 3, 24, 0);
        Bench.bad("class ~~~~~~?;", 1, 12, 0);
    }

    private static void drops() {
        Bench.good("drop 0 1;drop 1 2;drop 0 2;", 0);
        Bench.good("drop 0 1;rule 0 @1;", 1);
        Bench.bad("drop 0 1;rule 1 @0;", 4, 0, 0);
        Bench.bad("class [a]; drop 2 3;drop 3 2;", 4, 11, 1);
        Bench.bad("drop 4 5;drop 0 1;rule 1 @2;rule 2 @3;rule 3 @0;", 4, 9, 1);
        Bench.bad("quote 1 0 'abc';drop 0 1;", 4, 16, 1);
        Bench.bad("drop 0 1;drop 1 2;drop 2 0;", 4, 0, 0);
        // Kind 4 comes behind all others, wherever these are.
        Bench.bad("drop 2 3;drop 3 2;rule 9;", 2, 23, 2);
        Bench.bad("drop 2 3;drop 3 2", 1, 17, 1);
    }

    private static void firstFault() {
        Bench bench = new Bench();
        Bench.due("fault() ahead of all", bench.parses.fault(), -1);
        Bench.due("faulted() ahead of all", bench.parses.faulted(), -1);
        bench.grammarFault("rule 0;rule 9;rule ?", 2, 12, 1);
        bench.grammar("rule 0;");
        Bench.due("fault() behind a good one", bench.parses.fault(), -1);
        Bench.due("faulted() behind a good one", bench.parses.faulted(), -1);
        bench.workFault("cut 0 1;cut", 1, 11, 1);
        bench.lawFault("1+", 1, 2);
        bench.workFault("cut 0 1;cut", 1, 11, 1);
        bench.law("1");
        Bench.due("fault() behind a good law", bench.parses.fault(), -1);
        Bench.due("faulted() behind a good law", bench.parses.faulted(), -1);
        bench.lawFault("", 1, 0);
        bench.work("");
        Bench.due("fault() behind a good work", bench.parses.fault(), -1);
        bench.workFault("cut 0 25;", 2, 6, 0);
        bench.feed("x");
        bench.refuses("work(21)", () -> bench.parses.work(21));
        Bench.due("fault() behind a refused call", bench.parses.fault(), 6);
        Bench.due("faulted() behind a refused call", bench.parses.faulted(), 0);
    }

    private static void goodLaw(String text) {
        Bench bench = new Bench();
        Bench.due("law " + text, bench.law(text), 1);
        Bench.due("fault() of law " + text, bench.parses.fault(), -1);
        Bench.due("faulted() of law " + text, bench.parses.faulted(), -1);
    }

    private static void badLaw(String text, int kind, int place) {
        new Bench().lawFault(text, kind, place);
    }

    private static void laws() {
        goodLaw("0");
        goodLaw(" 999 ");
        goodLaw("0000999");
        goodLaw("sort+from-to*high/ways%deep");
        goodLaw("least[1,most [ 2 , 3 ] ]");
        goodLaw("((((((1))))))");
        goodLaw("(1)+(1)+(1)+(1)+(1)+(1)+(1)");
        goodLaw("least[1,1]+least[1,1]+most[1,1]+(1)+least[1,1]+most[1,1]+least[1,1]+most[1,1]");
        badLaw("", 1, 0);
        badLaw("  ", 1, 2);
        badLaw("1000", 2, 0);
        badLaw("1 + 4294967297", 2, 4);
        badLaw("-1", 1, 0);
        badLaw("1 1", 1, 2);
        badLaw("1)", 1, 1);
        badLaw("1;", 1, 1);
        badLaw("(1", 1, 2);
        badLaw("(1]", 1, 2);
        badLaw("sorts", 1, 0);
        badLaw("2*Sort", 1, 2);
        badLaw("least", 1, 5);
        badLaw("least(1,2)", 1, 5);
        badLaw("least[1]", 1, 7);
        badLaw("most[1,2", 1, 8);
        badLaw("most[1,2,3]", 1, 8);
        badLaw("1+*2", 1, 2);
        badLaw("(((((((1)))))))", 3, 6);
        badLaw("((((((least", 3, 6);
        badLaw("((((((leasts", 1, 6);
        badLaw("least[(most[(least[(most", 3, 20);
        badLaw("least[(most[(least[(1000", 2, 20);
        Bench bench = new Bench();
        bench.feed(Bench.times("1", 160));
        bench.refuses("law(151)", () -> bench.parses.law(151));
        Bench.due("count(1) behind law(151)", bench.parses.count(1), 160);
        bench.refuses("law(-1)", () -> bench.parses.law(-1));
        Bench.due("law(150)", bench.parses.law(150), -8);
        bench.feed("1");
        bench.refuses("law(21)", () -> bench.parses.law(21));
        Bench.due("law(1)", bench.parses.law(1), 1);
        Bench.due("count(1) behind law(1)", bench.parses.count(1), 0);
    }

    private static void badWork(String text, int kind, int place, int step) {
        Bench bench = new Bench().type("ab");
        bench.workFault(text, kind, place, step);
        Bench.due("count(2) behind work " + text, bench.parses.count(2), 1);
        Bench.due("told(8) behind work " + text, bench.parses.told(8), 2);
    }

    private static void works() {
        Bench.due("work of nothing", new Bench().work("   "), 0);
        Bench.due("work with blanks", new Bench().work(" type 0 'ab' ; again 2 [ swap 0 1 ; ] ; "), 3);
        Bench.due("work without blanks", new Bench().work("type0'ab';again2[swap0 1;again0[];];"), 3);
        badWork("cut 0 1;cut 0", 1, 13, 1);
        badWork("cut 0 1", 1, 7, 0);
        badWork("cuts 0 1;", 1, 0, 0);
        badWork("cut 0 1;;", 1, 8, 1);
        badWork("cut 0 1;]", 1, 8, 1);
        badWork("type 25 'a';", 2, 5, 0);
        badWork("type 0 a;", 1, 7, 0);
        badWork("type 0 '';", 1, 8, 0);
        badWork("type 0 '123456789';", 2, 17, 0);
        badWork("cut 25 1;", 2, 4, 0);
        badWork("cut 0 25;", 2, 6, 0);
        badWork("swap 0 25;", 2, 7, 0);
        badWork("swap 25 0;", 2, 5, 0);
        badWork("again 41[];", 2, 6, 0);
        badWork("again 1 cut 0 1;", 1, 8, 0);
        badWork("again 1[cut 0 1]", 1, 15, 0);
        badWork("again 1[cut 0 1;", 1, 16, 0);
        badWork("again 1[cut 0 1;]", 1, 17, 0);
        badWork("cut 0 1;again 1[cut 0 1;cut 0 99;];", 2, 30, 1);
        badWork("again 1[cut 0 1;];x", 1, 18, 1);
        badWork(Bench.times("again 1[", 7), 3, 48, 0);
        badWork(Bench.times("again 1[", 6) + "agains", 1, 48, 0);
        Bench.due("six agains", new Bench().work(Bench.times("again 1[", 6) + "type 0 'a';" + Bench.times("];", 6)), 1);
        Bench.due("seven agains, one by one", new Bench().work(Bench.times("again 1[];", 7)), 0);
        Bench bench = new Bench();
        bench.feed(Bench.times(" ", 160));
        bench.refuses("work(151)", () -> bench.parses.work(151));
        bench.refuses("work(-1)", () -> bench.parses.work(-1));
        Bench.due("count(1) behind work(-1)", bench.parses.count(1), 160);
        Bench.due("work(150)", bench.parses.work(150), 0);
        Bench.due("count(1) behind work(150)", bench.parses.count(1), 0);
    }
}
