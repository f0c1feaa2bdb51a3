/** Boundary cases of promises 5 to 8, and of what Terms say of works and steps: both sides of each. */
public final class WorkEdgesTest {
    public static void main(String[] args) {
        lengthOfWork();
        whatWorkAnswers();
        workStays();
        workNumbers();
        workText();
        workOpens();
        typing();
        cutting();
        swapping();
        agains();
        twoHundredSteps();
        sixteenWorks();
        places();
        faulted();
        undoing();
        Bench.closeEdges("WorkEdgesTest", 5, 8);
    }

    private static void lengthOfWork() {
        Bench.edge(5, "n is not 0 to the TAPE's bytes");
        Bench bench = new Bench();
        PrunedParses parses = bench.parses;
        bench.refuses("work(1) of none", () -> parses.work(1));
        bench.feed("type 0 'a';         ");
        bench.refuses("work(-1)", () -> parses.work(-1));
        bench.refuses("work(21)", () -> parses.work(21));
        bench.refuses("work(least)", () -> parses.work(Integer.MIN_VALUE));
        bench.refuses("work(greatest)", () -> parses.work(Integer.MAX_VALUE));
        Bench.due("count(1)", parses.count(1), 20);
        Bench.due("count(2)", parses.count(2), 0);
        Bench.due("work(20)", parses.work(20), 1);
        Bench.due("count(1) behind work(20)", parses.count(1), 0);
        bench.feed("type 0 'a';");
        Bench.due("work(0)", parses.work(0), 0);
        Bench.due("count(1) behind work(0)", parses.count(1), 0);
        bench.feed("type 0 'a';");
        Bench.due("work(10)", parses.work(10), -9);
        Bench.due("fault() of work(10)", parses.fault(), 10);
        Bench.edge(5, "n to 150");
        String last = Bench.times(" ", 139) + "type 0 'b';";
        bench.feed(last + Bench.times(" ", 50));
        bench.refuses("work(151)", () -> parses.work(151));
        bench.refuses("work(201)", () -> parses.work(201));
        Bench.due("count(1) behind work(201)", parses.count(1), 200);
        Bench.due("work(150)", parses.work(150), 1);
        bench.feed(last);
        Bench.due("work(149)", parses.work(149), -9);
        Bench.due("fault() of work(149)", parses.fault(), 149);
        new Bench().step(Bench.times("cut0 0;", 21) + "   ", 0, 21, "");
        new Bench().workFault(Bench.times("cut0 0;", 21) + "cut", 1, 150, 21);
        new Bench().workFault("type 0 '" + Bench.times("a", 142), 1, 150, 0);
        new Bench().workFault("type 0 '" + Bench.times("a", 141) + "'", 2, 149, 0);
    }

    private static void whatWorkAnswers() {
        Bench.edge(5, "how many STEPS were done: none, one, many");
        Bench bench = new Bench();
        bench.step("", 0, 0, "");
        bench.step("   ", 0, 0, "");
        bench.step("type 0 'a';", 1, 0, "a");
        bench.step("again 40[cut 0 1;type 0 'b';];", 80, 0, "b");
        Bench.edge(5, "agains not counted, nor REFUSED ones");
        bench.step("again 1[];again 0[cut 0 1;];", 0, 0, "b");
        bench.step("cut 1 1;cut 0 2;", 0, 2, "b");
        bench.step("again 2[again 1[cut 0 1;];];", 1, 1, "");
        bench.step("cut 0 1;type 0 'a';cut 0 1;", 2, 1, "");
    }

    private static void workStays() {
        Bench.edge(5, "the FAULT less 10: none is done, all but the TAPE stays");
        Bench bench = Bench.with("token 0 'a';").type("a");
        bench.work("cut 9 9;");
        bench.law("4");
        bench.parses.image();
        bench.workFault("cut 0 1;type 0 'b';cut", 1, 22, 2);
        bench.workFault("cut 0 1;cut 25 0;", 2, 12, 1);
        bench.workFault("cut 0 1;" + Bench.times("again 1[", 7), 3, 56, 1);
        int[] told = {0, 1, 0, 0, 0, -1, 0, 1, 1, 1};
        for (int what = 0; what < 10; what++) Bench.due("told(" + what + ")", bench.parses.told(what), told[what]);
        Bench.due("worth(0)", bench.parses.worth(0), 4);
        Bench.due("count(0)", bench.parses.count(0), 1);
        Bench.due("count(2)", bench.parses.count(2), 2);
        bench.textIs("a");
        Bench.edge(5, "without a FAULT neither the LAW nor IMAGES go");
        bench.work("");
        Bench.due("worth(0)", bench.parses.worth(0), 4);
        Bench.due("count(0)", bench.parses.count(0), 1);
        Bench.due("count(2)", bench.parses.count(2), 3);
    }

    private static void workNumbers() {
        Bench.edge(5, "P, N 0 to 24");
        for (String step : new String[] {"type _ 'a';", "cut _ 0;", "cut 0 _;", "swap _ 0;", "swap 0 _;"}) {
            int place = step.indexOf('_');
            for (String number : new String[] {"0", "24", "00024"}) {
                Bench bench = new Bench();
                bench.work(step.replace("_", number));
                Bench.due("fault() of " + step + " with " + number, bench.parses.fault(), -1);
            }
            for (String number : new String[] {"25", "024000", "99", "100", "4294967296", "18446744073709551616"}) {
                new Bench().workFault(step.replace("_", number), 2, place, 0);
            }
            new Bench().workFault(step.replace("_", "-1"), 1, place, 0);
            new Bench().workFault(step.replace("_", "x"), 1, place, 0);
        }
        Bench.edge(5, "again N, 0 to 40");
        Bench bench = new Bench();
        bench.step("again 0[cut 0 0;];", 0, 0, "");
        bench.step("again 1[cut 0 0;];", 0, 1, "");
        bench.step("again 40[cut 0 0;];", 0, 40, "");
        bench.step("again 00040[cut 0 0;];", 0, 40, "");
        new Bench().workFault("again 41[cut 0 0;];", 2, 6, 0);
        new Bench().workFault("again 4294967296[];", 2, 6, 0);
        new Bench().workFault("again [];", 1, 6, 0);
    }

    private static void workText() {
        Bench.edge(5, "WORK: { STEP \";\" }, names as many small letters as stand there");
        for (String name : new String[] {"type", "cut", "swap", "again"}) {
            new Bench().workFault(name + "s 0 0;", 1, 0, 0);
            new Bench().workFault(name.substring(1) + " 0 0;", 1, 0, 0);
            new Bench().workFault(name.toUpperCase() + " 0 0;", 1, 0, 0);
            new Bench().workFault(name, 1, name.length(), 0);
        }
        new Bench().workFault(";", 1, 0, 0);
        new Bench().workFault("cut 0 1;;", 1, 8, 1);
        new Bench().workFault("cut 0 1;]", 1, 8, 1);
        new Bench().workFault("cut 0 1 cut 0 1;", 1, 8, 0);
        new Bench().workFault("rule 0;", 1, 0, 0);
        Bench.edge(5, "a FAULT is one, though a STEP could end just behind it");
        new Bench().workFault("type;", 1, 4, 0);
        new Bench().workFault("type 25;", 2, 5, 0);
        new Bench().workFault("type 0;", 1, 6, 0);
        new Bench().workFault("type 0 a';", 1, 7, 0);
        new Bench().workFault("type 25 'a';", 2, 5, 0);
        new Bench().workFault("cut 25;", 2, 4, 0);
        new Bench().workFault("cut 0;", 1, 5, 0);
        new Bench().workFault("swap 25;", 2, 5, 0);
        new Bench().workFault("swap 0;", 1, 6, 0);
        new Bench().workFault("again;", 1, 5, 0);
        new Bench().workFault("again 41;", 2, 6, 0);
        new Bench().workFault("again 1;", 1, 7, 0);
        new Bench().workFault("again 1];", 1, 7, 0);
        new Bench().workFault("again 1 cut 0 1;];", 1, 8, 0);
        new Bench().workFault("again 1[cut 0 1;;", 1, 16, 0);
        new Bench().workFault("again 1[cut;", 1, 11, 0);
        new Bench().workFault("again 1[cut 0 1];", 1, 15, 0);
        new Bench().workFault(Bench.times("again 1[", 6) + "again;" + Bench.times("];", 6), 3, 48, 0);
        Bench.edge(5, "WORD of a type: 1 to 8 SIGNS");
        new Bench().workFault("type 0 '';", 1, 8, 0);
        new Bench().step("type 0 'a';", 1, 0, "a");
        new Bench().step("type 0 'abcdefgh';", 1, 0, "abcdefgh");
        new Bench().workFault("type 0 'abcdefghi';", 2, 17, 0);
        new Bench().workFault("type 0 'abcdefghi;", 1, 18, 0);
        new Bench().workFault("type 0 'abc;", 1, 12, 0);
        new Bench().workFault("type 0 'a\u007f';", 1, 9, 0);
        new Bench().step("type 0 ' ~-]\\\\\\'';", 1, 0, " ~-]\\'");
        Bench.edge(5, "1 at the length, if the WORK ends too early");
        String text = "type 0'ab';again 2[cut 0 1;];";
        int[] good = {0, 11, 29};
        int[] names = {0, 11, 19};
        String[] named = {"type", "again", "cut"};
        for (int n = 0; n <= text.length(); n++) {
            int place = n;
            for (int k = 0; k < 3; k++) {
                if (n > names[k] && n < names[k] + named[k].length()) place = names[k];
            }
            if (n == good[0] || n == good[1] || n == good[2]) {
                Bench bench = new Bench();
                bench.work(text.substring(0, n));
                Bench.due("fault() of " + text.substring(0, n), bench.parses.fault(), -1);
            } else {
                new Bench().workFault(text.substring(0, n), 1, place, n < 11 ? 0 : 1);
            }
        }
        Bench.edge(5, "nothing stays of the WORKS ahead, however long they were");
        Bench long1 = new Bench();
        long1.step("again 3[type 0 'a';again 2[type 0 'bc';];];cut 0 9;", 10, 0, "abcbca");
        long1.step("cut 0 1;", 1, 0, "bcbca");
        long1.step("again 2[cut 0 1;];", 2, 0, "bca");
        long1.step("", 0, 0, "bca");
        long1.step("type 0 'xyz';", 1, 0, "xyzbca");
        Bench.edge(5, "blanks may stand ahead of all names, numbers and signs of a WORK");
        new Bench().step("  type  0  'ab'  ;  again  2  [  swap  0  1  ;  cut  0  1  ;  ]  ;  ", 4, 1, "");
        new Bench().step("type0'ab';again2[swap0 1;cut0 1;];", 4, 1, "");
        new Bench().workFault("ty pe 0 'a';", 1, 0, 0);
        new Bench().workFault("cut 0 1\t;", 1, 7, 0);
    }

    private static void workOpens() {
        Bench.edge(5, "a 7th again that is open at one time");
        new Bench().step(Bench.times("again 1[", 5) + "type 0 'a';" + Bench.times("];", 5), 1, 0, "a");
        new Bench().step(Bench.times("again 1[", 6) + "type 0 'a';" + Bench.times("];", 6), 1, 0, "a");
        new Bench().workFault(Bench.times("again 1[", 7) + "type 0 'a';" + Bench.times("];", 7), 3, 48, 0);
        new Bench().workFault(Bench.times("again 1[", 6) + "again", 3, 48, 0);
        new Bench().workFault(Bench.times("again 1[", 6) + " again 99", 3, 49, 0);
        new Bench().workFault(Bench.times("again 1[", 6) + "agains", 1, 48, 0);
        Bench.edge(5, "an again that is closed is open no more");
        new Bench().step(Bench.times("again 1[];", 14), 0, 0, "");
        new Bench().step(Bench.times("again1[", 5) + "again1[];again1[];again2[type0'a';];" + Bench.times("];", 5), 2, 0, "aa");
        new Bench().workFault(Bench.times("again1[", 5) + "again1[];again1[again1[", 3, 51, 0);
    }

    private static void typing() {
        Bench.edge(5, "type: REFUSED, if P is above the length");
        Bench bench = new Bench();
        bench.step("type 1 'a';", 0, 1, "");
        bench.step("type 0 'bc';", 1, 0, "bc");
        bench.step("type 3 'a';", 0, 1, "bc");
        bench.step("type 24 'a';", 0, 1, "bc");
        bench.step("type 2 'd';", 1, 0, "bcd");
        Bench.edge(5, "type: WORD stands from P on, what was there behind it");
        bench.step("type 0 'a';", 1, 0, "abcd");
        bench.step("type 3 'xyz';", 1, 0, "abcxyzd");
        bench.step("type 7 'e';", 1, 0, "abcxyzde");
        Bench.edge(5, "type: REFUSED, if there would be more than 24");
        bench.step("type 0 'ABCDEFGH';", 1, 0, "ABCDEFGHabcxyzde");
        bench.step("type 16 '1234567';", 1, 0, "ABCDEFGHabcxyzde1234567");
        bench.step("type 23 '89';type 0 '89';", 0, 2, "ABCDEFGHabcxyzde1234567");
        bench.step("type 23 '8';", 1, 0, "ABCDEFGHabcxyzde12345678");
        bench.step("type 24 '9';type 0 '9';type 23 '9';", 0, 3, "ABCDEFGHabcxyzde12345678");
        bench.step("cut 23 1;type 0 '9';", 2, 0, "9ABCDEFGHabcxyzde1234567");
        bench.step("cut 0 8;type 16 'abcdefgh';", 2, 0, "Habcxyzde1234567abcdefgh");
        Bench.due("told(8)", bench.parses.told(8), 24);
    }

    private static void cutting() {
        Bench.edge(5, "cut: REFUSED, if N is 0");
        Bench bench = new Bench();
        bench.step("cut 0 0;", 0, 1, "");
        bench.step("type 0 'abcdef';cut 0 0;cut 3 0;cut 6 0;cut 24 0;", 1, 4, "abcdef");
        bench.step("cut 0 1;", 1, 0, "bcdef");
        Bench.edge(5, "cut: REFUSED, if there are not so many");
        bench.step("cut 0 6;", 0, 1, "bcdef");
        bench.step("cut 4 2;", 0, 1, "bcdef");
        bench.step("cut 5 1;", 0, 1, "bcdef");
        bench.step("cut 6 1;", 0, 1, "bcdef");
        bench.step("cut 24 24;", 0, 1, "bcdef");
        bench.step("cut 4 1;", 1, 0, "bcde");
        bench.step("cut 1 2;", 1, 0, "be");
        bench.step("cut 0 2;", 1, 0, "");
        bench.step("cut 0 1;", 0, 1, "");
        Bench.edge(5, "cut: of a full TEXT all 24");
        bench.step("again 3[type 0 'abcdefgh';];cut 0 24;", 4, 0, "");
        bench.step("again 3[type 0 'abcdefgh';];cut 1 24;cut 1 23;", 4, 1, "a");
    }

    private static void swapping() {
        Bench.edge(5, "swap: REFUSED, if there is none at one");
        Bench bench = new Bench();
        bench.step("swap 0 0;swap 0 1;", 0, 2, "");
        bench.step("type 0 'abc';", 1, 0, "abc");
        bench.step("swap 0 3;", 0, 1, "abc");
        bench.step("swap 3 0;", 0, 1, "abc");
        bench.step("swap 3 3;swap 3 4;swap 24 24;", 0, 3, "abc");
        bench.step("swap 0 2;", 1, 0, "cba");
        bench.step("swap 2 1;", 1, 0, "cab");
        Bench.edge(5, "swap: of a full TEXT the first and the last");
        bench.step("cut 0 3;again 3[type 0 'abcdefgh';];swap 0 23;", 5, 0, "hbcdefghabcdefghabcdefga");
        bench.step("swap 23 24;swap 24 0;", 0, 2, "hbcdefghabcdefghabcdefga");
        bench.step("swap 23 0;", 1, 0, "abcdefghabcdefghabcdefgh");
        Bench.edge(5, "swap: REFUSED, if both are alike");
        bench = new Bench();
        bench.step("type 0 'aab';", 1, 0, "aab");
        bench.step("swap 0 0;swap 2 2;", 0, 2, "aab");
        bench.step("swap 0 1;swap 1 0;", 0, 2, "aab");
        bench.step("swap 1 2;", 1, 0, "aba");
        Bench.edge(5, "swap: what was cut away is at no place");
        bench.step("cut 2 1;swap 0 2;swap 2 0;", 1, 2, "ab");
    }

    private static void agains() {
        Bench.edge(5, "again: none, one, many times");
        Bench bench = new Bench();
        bench.step("again 0[type 0 'a';];", 0, 0, "");
        bench.step("again 1[type 0 'a';];", 1, 0, "a");
        bench.step("again 2[type 0 'b';type 0 'c';];", 4, 0, "cbcba");
        bench.step("again 40[type 0 'd';];", 19, 21, "dddddddddddddddddddcbcba");
        Bench.edge(5, "again: of no STEPS");
        bench.step("again 40[];again 40[again 40[];];", 0, 0, "dddddddddddddddddddcbcba");
        String three = "again 40[];again 40[];again 40[];";
        Bench.edge(5, "again: of no STEPS is begun once each time, however often it is done");
        new Bench().step("again 40[" + three + "];again 33[" + three + "];type 0 'a';", 0, 0, "");
        new Bench().step("again 40[" + three + "];again 25[" + three + "];type 0 'a';", 1, 0, "a");
        new Bench().step("again 39[again 40[];" + three + "again 40[];];" + three + "type 0 'a';", 1, 0, "a");
        new Bench().step("again 39[again 40[];" + three + "again 40[];];" + three + "again 0[];type 0 'a';", 0, 0, "");
        Bench.edge(5, "again within again: 0 times in either");
        bench.step("again 3[again 0[cut 0 1;];];again 0[again 3[cut 0 1;];];cut 0 19;", 1, 0, "cbcba");
        bench.step("again 2[again 2[cut 0 1;];again 0[cut 0 5;];];", 4, 0, "a");
        bench.step("again 2[again 1[type 0 'x';];again 2[type 1 'y';];type 0 'z';];", 8, 0, "zxyyzxyya");
    }

    private static void twoHundredSteps() {
        Bench.edge(5, "200 STEPS at most are begun: 199, 200, 201");
        // 1 and 40 are 41, four times: 164, and what is behind.
        String four = Bench.times("again 40[cut 0 0;];", 4);
        new Bench().step(four + "again 33[cut 0 0;];type 0 'a';", 1, 193, "a");
        new Bench().step(four + "again 34[cut 0 0;];type 0 'a';", 1, 194, "a");
        new Bench().step(four + "again 35[cut 0 0;];type 0 'a';", 0, 195, "");
        new Bench().step(four + "again 36[cut 0 0;];type 0 'a';", 0, 195, "");
        new Bench().step(four + "again 34[cut 0 0;];type 0 'a';type 0 'b';", 1, 194, "a");
        Bench.edge(5, "REFUSED STEPS are begun, too, and so are those that are done");
        new Bench().step("again 40[type 0 'a';cut 0 1;cut 0 1;];" + "again 40[cut 0 1;];again 38[cut 0 1;];type 0 'b';", 80, 117, "");
        new Bench().step("again 40[type 0 'a';cut 0 1;cut 0 1;];" + "again 40[cut 0 1;];again 36[cut 0 1;];type 0 'b';", 81, 116, "b");
        new Bench().step("again 40[type 0 'a';cut 0 1;cut 0 1;];" + "again 40[cut 0 1;];again 37[cut 0 1;];type 0 'b';", 80, 117, "");
        Bench.edge(5, "an again is begun each time it is come to");
        // Each of 40 times 5: an again, an empty one in it, two STEPS, an again 0; and 1 ahead: the 200th is left out.
        new Bench().step("again 40[again 1[again 0[];];cut 0 0;type 0 'a';cut 0 1;];", 79, 40, "a");
        new Bench().step("cut 0 0;again 40[again 1[again 0[];];cut 0 0;type 0 'a';cut 0 1;];", 78, 41, "");
        Bench.edge(5, "an again that is the 200th is begun, what is in it is left out");
        new Bench().step(four + "again 34[cut 0 0;];again 2[type 0 'a';];type 0 'b';", 0, 194, "");
        new Bench().step(four + "again 33[cut 0 0;];again 2[type 0 'a';];type 0 'b';", 1, 193, "a");
        Bench.edge(5, "what would come behind is left out of the next times, too");
        // 1 and 4 times 41 are 165, one again more, and 34 STEPS of it.
        new Bench().step("again 40[again 40[type 0 'a';];];", 24, 170, "aaaaaaaaaaaaaaaaaaaaaaaa");
        Bench.edge(5, "the next WORK has 200 again");
        Bench bench = new Bench();
        bench.work(four + "again 40[cut 0 0;];");
        bench.step(four + "again 34[cut 0 0;];type 0 'a';", 1, 194, "a");
    }

    /** An object with 16 WORKS that were not undone. */
    private static Bench full() {
        Bench bench = new Bench();
        for (int k = 1; k <= 16; k++) {
            Bench.due("work " + k, bench.work("type 0 'a';cut 20 1;"), 1);
            Bench.due("count(2)", bench.parses.count(2), k);
        }
        return bench;
    }

    private static void sixteenWorks() {
        Bench.edge(5, "16 WORKS are there: the 16th is done, the 17th is -20");
        Bench bench = full();
        Bench.due("work 17", bench.work("type 0 'b';"), -20);
        bench.textIs("aaaaaaaaaaaaaaaa");
        Bench.due("count(2)", bench.parses.count(2), 16);
        Bench.due("told(9)", bench.parses.told(9), 1);
        Bench.edge(5, "-20 of a WORK without STEPS, of no bytes");
        Bench.due("work of blanks", bench.work("  "), -20);
        Bench.due("work(0)", bench.parses.work(0), -20);
        Bench.edge(5, "-20 behind the exception");
        bench.feed("type 0 'b';");
        bench.refuses("work(21)", () -> bench.parses.work(21));
        bench.refuses("work(-1)", () -> bench.parses.work(-1));
        Bench.due("count(1) behind work(-1)", bench.parses.count(1), 20);
        Bench.edge(5, "-20 ahead of the FAULT: there is no FAULT, the TAPE is empty then");
        bench.parses.law(0);
        Bench.due("fault() of law(0)", bench.parses.fault(), 0);
        Bench.due("faulty work", bench.work("type 99"), -20);
        Bench.due("fault()", bench.parses.fault(), -1);
        Bench.due("faulted()", bench.parses.faulted(), -1);
        Bench.due("count(1)", bench.parses.count(1), 0);
        Bench.edge(5, "a WORK that was undone is there no more");
        Bench.due("undo()", bench.parses.undo(), 15);
        Bench.due("work behind undo()", bench.work("type 0 'b';"), 1);
        Bench.due("work behind that", bench.work("type 0 'b';"), -20);
        bench.textIs("baaaaaaaaaaaaaaa");
        Bench.edge(5, "a WORK with a FAULT is none of the 16");
        Bench other = new Bench();
        for (int k = 0; k < 16; k++) {
            other.workFault("cut", 1, 3, 0);
            other.work("");
        }
        Bench.due("count(2)", other.parses.count(2), 16);
        Bench.edge(5, "none are there behind a GRAMMAR");
        other.grammar("");
        Bench.due("work behind a GRAMMAR", other.work("type 0 'b';"), 1);
    }

    private static void places() {
        Bench.edge(6, "the place of the FAULT: the first byte, the last, the length");
        Bench bench = new Bench();
        bench.grammarFault("?rule 0;", 1, 0, 0);
        bench.grammarFault("rule 0;?", 1, 7, 1);
        bench.grammarFault("rule 0", 1, 6, 0);
        bench.lawFault("?", 1, 0);
        bench.lawFault("1?", 1, 1);
        bench.lawFault("1+", 1, 2);
        bench.workFault("?", 1, 0, 0);
        bench.workFault("cut 0 1?", 1, 7, 0);
        bench.workFault("cut 0 1", 1, 7, 0);
        Bench.edge(6, "of the latest text; NONE without");
        Bench fresh = new Bench();
        Bench.due("fault() of a new object", fresh.parses.fault(), -1);
        for (int round = 0; round < 2; round++) {
            fresh.grammarFault("?", 1, 0, 0);
            fresh.grammar("rule 0;");
            Bench.due("fault() behind a GRAMMAR", fresh.parses.fault(), -1);
            fresh.workFault("cut?", 1, 3, 0);
            fresh.law("1");
            Bench.due("fault() behind a LAW", fresh.parses.fault(), -1);
            fresh.lawFault(" ?", 1, 1);
            fresh.work("");
            Bench.due("fault() behind a WORK", fresh.parses.fault(), -1);
        }
        Bench.edge(6, "a refused call reads no text");
        fresh.lawFault("  ?", 1, 2);
        fresh.refuses("law(1)", () -> fresh.parses.law(1));
        fresh.refuses("work(-1)", () -> fresh.parses.work(-1));
        fresh.refuses("grammar(1)", () -> fresh.parses.grammar(1));
        fresh.refuses("told(10)", () -> fresh.parses.told(10));
        Bench.due("fault()", fresh.parses.fault(), 2);
        fresh.grammar("");
        fresh.refuses("grammar(1)", () -> fresh.parses.grammar(1));
        Bench.due("fault() behind a good one", fresh.parses.fault(), -1);
    }

    private static void faulted() {
        Bench.edge(7, "the number, from 0 on, of the CLAUSE");
        Bench bench = new Bench();
        bench.grammarFault("rule 8;rule 0;", 2, 5, 0);
        bench.grammarFault("rule 0;rule 8;", 2, 12, 1);
        bench.grammarFault(Bench.times("rule 0;", 19) + "rule 8;", 2, 138, 19);
        Bench.edge(7, "a CLAUSE that would come next counts");
        bench.grammarFault("?", 1, 0, 0);
        bench.grammarFault("rule 0;?", 1, 7, 1);
        bench.grammarFault("rule 0?", 1, 6, 0);
        bench.grammarFault("rule 0", 1, 6, 0);
        bench.grammarFault("class[];" + Bench.times("lay#0;", 59) + "lay#0;", 3, 362, 60);
        Bench.edge(7, "of FAULT 4 its drop");
        bench.grammarFault("drop 0 1;rule 1 @0;", 4, 0, 0);
        bench.grammarFault("rule 1 @0;rule 2;drop 0 1;rule 3;", 4, 17, 2);
        bench.grammarFault("rule 1 @0;drop 2 3;drop 0 1;drop 0 1;", 4, 19, 2);
        Bench.edge(7, "of the outermost STEP");
        bench.workFault("cut 99 0;", 2, 4, 0);
        bench.workFault("cut 0 1;cut 99 0;", 2, 12, 1);
        bench.workFault("again 1[cut 0 1;cut 0 1;cut 99 0;];", 2, 28, 0);
        bench.workFault("cut 0 1;again 1[again 1[cut 0 1;];cut 0 1;cut 99 0;];", 2, 46, 1);
        bench.workFault("again 1[cut 0 1;];cut 0 1;cut 99 0;", 2, 30, 2);
        Bench.edge(7, "a STEP that would come next counts");
        bench.workFault("?", 1, 0, 0);
        bench.workFault("cut 0 1;?", 1, 8, 1);
        bench.workFault("cut 0 1;]", 1, 8, 1);
        bench.workFault("cut 0 1?", 1, 7, 0);
        bench.workFault("again 1[cut 0 1;?", 1, 16, 0);
        bench.workFault("again 1[cut 0 1;]?", 1, 17, 0);
        bench.workFault("again 1[cut 0 1;];?", 1, 18, 1);
        Bench.edge(7, "NONE without, or behind a LAW");
        bench.work("");
        Bench.due("faulted() behind a WORK", bench.parses.faulted(), -1);
        bench.workFault("?", 1, 0, 0);
        bench.law("1");
        Bench.due("faulted() behind a LAW", bench.parses.faulted(), -1);
        bench.workFault("?", 1, 0, 0);
        bench.lawFault("?", 1, 0);
        bench.workFault("?", 1, 0, 0);
        bench.grammar("");
        Bench.due("faulted() behind a GRAMMAR", bench.parses.faulted(), -1);
        Bench.edge(7, "or behind a work() that told -20");
        Bench full = full();
        full.grammarFault("rule 0;rule", 1, 11, 1);
        Bench.due("work", full.work("?"), -20);
        Bench.due("faulted()", full.parses.faulted(), -1);
        Bench.edge(7, "a refused call changes it not");
        full.grammarFault("rule 0;rule", 1, 11, 1);
        full.refuses("work(1)", () -> full.parses.work(1));
        Bench.due("faulted()", full.parses.faulted(), 1);
    }

    private static void undoing() {
        Bench.edge(8, "-1: there is none");
        Bench bench = new Bench();
        Bench.due("undo() of none", bench.parses.undo(), -1);
        bench.work("type 0 'a';cut 9 9;");
        Bench.due("undo() of one", bench.parses.undo(), 0);
        bench.textIs("");
        bench.work("cut 9 9;");
        bench.parses.undo();
        bench.work("cut 9 9;cut 9 9;");
        Bench.due("undo()", bench.parses.undo(), 0);
        Bench.due("undo() of none again", bench.parses.undo(), -1);
        bench.textIs("");
        Bench.edge(8, "how many are left: of 16");
        Bench full = full();
        for (int left = 15; left >= 0; left--) {
            Bench.due("undo()", full.parses.undo(), left);
            full.textIs(Bench.times("a", left));
            Bench.due("count(2)", full.parses.count(2), left);
        }
        Bench.due("undo() of none", full.parses.undo(), -1);
        Bench.edge(8, "a WORK of no STEPS, or with all of them REFUSED, too");
        bench = Bench.with("").type("ab");
        bench.work("");
        bench.work("cut 9 9;");
        bench.work("swap 0 1;");
        Bench.due("undo() 1", bench.parses.undo(), 3);
        bench.textIs("ab");
        Bench.due("undo() 2", bench.parses.undo(), 2);
        bench.textIs("ab");
        Bench.due("undo() 3", bench.parses.undo(), 1);
        bench.textIs("ab");
        Bench.due("undo() 4", bench.parses.undo(), 0);
        bench.textIs("");
        Bench.edge(8, "not a WORK with a FAULT, nor one that told -20");
        full = full();
        full.work("type 0 'b';");
        Bench.due("undo()", full.parses.undo(), 15);
        full.textIs(Bench.times("a", 15));
        full.workFault("cut", 1, 3, 0);
        Bench.due("undo() behind a FAULT", full.parses.undo(), 14);
        full.textIs(Bench.times("a", 14));
        Bench.edge(8, "all SIGNS of a full TEXT come back");
        bench = Bench.with("").type("abcdefghijklmnopqrstuvwx");
        bench.work("cut 0 24;");
        bench.work("type 0 'z';");
        bench.parses.undo();
        Bench.due("undo()", bench.parses.undo(), 1);
        bench.textIs("abcdefghijklmnopqrstuvwx");
    }
}
