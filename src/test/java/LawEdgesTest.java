/** Boundary cases of promise 4, and of what Terms say of laws: both sides of each. */
public final class LawEdgesTest {
    public static void main(String[] args) {
        lengthOfLaw();
        lawStays();
        lawNumbers();
        lawNames();
        lawText();
        lawOpens();
        Bench.closeEdges("LawEdgesTest", 4, 4);
    }

    private static void goodLaw(String text) {
        Bench bench = new Bench();
        Bench.due("law " + text, bench.law(text), 1);
        Bench.due("fault() of law " + text, bench.parses.fault(), -1);
        Bench.due("faulted() of law " + text, bench.parses.faulted(), -1);
    }

    private static void badLaw(String text, int kind, int place) {
        new Bench().lawFault(text, kind, place);
    }

    /** What one node is worth: of SORT 0 from 0 to 1, of HEIGHT 1, by 2 WAYS, deep 0. */
    private static void worth(String law, int due) {
        Bench bench = Bench.with("token 0 'a';rule 0 'a';").type("a");
        Bench.due("law " + law, bench.law(law), 1);
        Bench.due("worth by " + law, bench.parses.worth(0), due);
    }

    private static void lengthOfLaw() {
        Bench.edge(4, "n is not 0 to the TAPE's bytes");
        Bench bench = new Bench();
        PrunedParses parses = bench.parses;
        bench.refuses("law(1) of none", () -> parses.law(1));
        bench.feed("12345678901234567890");
        bench.refuses("law(-1)", () -> parses.law(-1));
        bench.refuses("law(21)", () -> parses.law(21));
        bench.refuses("law(least)", () -> parses.law(Integer.MIN_VALUE));
        bench.refuses("law(greatest)", () -> parses.law(Integer.MAX_VALUE));
        Bench.due("count(1)", parses.count(1), 20);
        Bench.due("law(3)", parses.law(3), 1);
        Bench.due("count(1) behind law(3)", parses.count(1), 0);
        bench.feed("                   7");
        Bench.due("law(20)", parses.law(20), 1);
        bench.feed("7");
        Bench.due("law(0)", parses.law(0), -9);
        Bench.due("fault()", parses.fault(), 0);
        Bench.due("count(1) behind law(0)", parses.count(1), 0);
        Bench.edge(4, "n to 150");
        bench.feed(Bench.times(" ", 149) + "1" + Bench.times(" ", 50));
        bench.refuses("law(151)", () -> parses.law(151));
        bench.refuses("law(200)", () -> parses.law(200));
        bench.refuses("law(201)", () -> parses.law(201));
        Bench.due("count(1) behind law(201)", parses.count(1), 200);
        Bench.due("law(150)", parses.law(150), 1);
        bench.feed(Bench.times(" ", 149) + "1" + Bench.times(" ", 50));
        Bench.due("law(149)", parses.law(149), -9);
        Bench.due("fault() of law(149)", parses.fault(), 149);
        goodLaw("1" + Bench.times(" ", 149));
        goodLaw("1" + Bench.times("+1", 74));
        badLaw("1" + Bench.times("+1", 74) + "+", 1, 150);
        goodLaw(Bench.times("0", 147) + "999");
        badLaw(Bench.times("0", 146) + "1000", 2, 0);
        goodLaw("1" + Bench.times("+1", 74) + "1");
    }

    private static void lawStays() {
        Bench.edge(4, "a LAW that is told 1; without: 1");
        Bench bench = Bench.with("token 0 'a';").type("a");
        Bench.due("worth(0) without", bench.parses.worth(0), 1);
        Bench.due("law(1)", bench.law("6"), 1);
        Bench.due("worth(0)", bench.parses.worth(0), 6);
        Bench.edge(4, "the FAULT less 10; all but the TAPE stays");
        String[] faulty = {"7+", "7*1000", "(((((((7", "", "8 9", "deep*"};
        int[][] due = {{1, 2}, {2, 2}, {3, 6}, {1, 0}, {1, 2}, {1, 5}};
        for (int k = 0; k < faulty.length; k++) {
            bench.lawFault(faulty[k], due[k][0], due[k][1]);
            Bench.due("worth(0) behind law " + faulty[k], bench.parses.worth(0), 6);
        }
        bench.law("4");
        bench.lawFault("7+", 1, 2);
        Bench.due("worth(0) of another LAW", bench.parses.worth(0), 4);
        bench.textIs("a");
        Bench.due("count(2)", bench.parses.count(2), 1);
        Bench.edge(4, "nothing stays of the LAWS ahead, however long they were");
        for (String law : new String[] {"1+2", "1+2+3+4+5", "(deep+2)*3", "least[1,2]-most[3,4]", "7"}) {
            bench.law("9*(9+9*(9+9*(9+9)))");
            bench.law("9*(9+9*(9+9*(9+9)))");
            bench.law(law);
            Bench law2 = Bench.with("token 0 'a';").type("a");
            law2.law(law);
            Bench.due("worth(0) by " + law, bench.parses.worth(0), law2.parses.worth(0));
        }
        Bench.due("worth(0) by 7", bench.parses.worth(0), 7);
        Bench.edge(4, "without a FAULT all else stays, too");
        bench.parses.image();
        bench.work("cut 9 9;");
        bench.law("3");
        int[] told = {0, 1, 0, 0, 0, -1, 0, 1, 1, 1};
        for (int what = 0; what < 10; what++) Bench.due("told(" + what + ")", bench.parses.told(what), told[what]);
        Bench.due("count(0)", bench.parses.count(0), 1);
        Bench.due("count(2)", bench.parses.count(2), 2);
        Bench.due("worth(0)", bench.parses.worth(0), 3);
        bench.parses.undo();
        bench.parses.restore();
        Bench.due("worth(0) behind undo() and restore()", bench.parses.worth(0), 3);
    }

    private static void lawNumbers() {
        Bench.edge(4, "N (0 to 999)");
        worth("0", 0);
        worth("999", 999);
        worth("000999", 999);
        badLaw("1000", 2, 0);
        badLaw("  1000", 2, 2);
        badLaw("1+1000", 2, 2);
        for (String number : new String[] {"4294967296", "4294967297", "2147483648", "18446744073709551616", "00001000", "9999", "10000"}) {
            badLaw(number, 2, 0);
        }
        badLaw("-1", 1, 0);
        badLaw("1-1000+x", 2, 2);
        Bench.edge(4, "Values are whole numbers of 32 bits that wrap");
        String million = "999*999*999";
        worth(million, 997002999);
        worth(million + "*2", 1994005998);
        worth(million + "*3", -1303958299);
        worth("256*256*256*64*2-1", Integer.MAX_VALUE);
        worth("256*256*256*64*2", Integer.MIN_VALUE);
        worth("0-256*256*256*64*2-1", Integer.MAX_VALUE);
        worth("256*256*256*256", 0);
        worth("256*256*256*64*2-1+1", Integer.MIN_VALUE);
        Bench.edge(4, "/ cuts, % leaves, with the sign of what is divided");
        worth("7/2", 3);
        worth("(0-7)/2", -3);
        worth("7/(0-2)", -3);
        worth("(0-7)/(0-2)", 3);
        worth("7%2", 1);
        worth("(0-7)%2", -1);
        worth("7%(0-2)", 1);
        worth("(0-7)%(0-2)", -1);
        worth("(0-8)%2", 0);
        worth("1/2", 0);
        worth("256*256*256*128/(0-1)", Integer.MIN_VALUE);
        worth("256*256*256*128%(0-1)", 0);
        Bench.edge(4, "by 0 both are 0");
        worth("7/0", 0);
        worth("7%0", 0);
        worth("0/0", 0);
        worth("7/(1-1)+5", 5);
        worth("7%deep+5", 5);
        worth("7/1", 7);
        worth("7%1", 0);
        Bench.edge(4, "least and most: below, alike, above");
        worth("least[1,2]", 1);
        worth("least[2,1]", 1);
        worth("least[2,2]", 2);
        worth("most[1,2]", 2);
        worth("most[2,1]", 2);
        worth("most[0-1,0-2]", -1);
        worth("least[0-1,0-2]", -2);
        worth("least[256*256*256*128,0]", Integer.MIN_VALUE);
        worth("most[256*256*256*128,0]", 0);
    }

    private static void lawNames() {
        Bench.edge(4, "names of a LAW: small letters, as many as stand there");
        int[] due = {0, 0, 1, 1, 2, 0};
        String[] names = {"sort", "from", "to", "high", "ways", "deep"};
        for (int k = 0; k < names.length; k++) {
            worth(names[k], due[k]);
            worth(names[k] + "+5", due[k] + 5);
            badLaw(names[k] + "s", 1, 0);
            badLaw(names[k].substring(1), 1, 0);
            badLaw("1*" + names[k] + "x*1", 1, 2);
            badLaw(names[k].toUpperCase(), 1, 0);
            badLaw(names[k] + "`", 1, names[k].length());
            badLaw(names[k] + "{", 1, names[k].length());
        }
        badLaw("leasts[1,2]", 1, 0);
        badLaw("mos[1,2]", 1, 0);
        badLaw("sort from", 1, 5);
        badLaw("so rt", 1, 0);
        badLaw("to5", 1, 2);
        Bench.edge(4, "deep: 0 of the root, 1 of its parts");
        Bench bench = Bench.with("token 0 @1;token 1 @2;token 2 'a';").type("a");
        bench.law("deep");
        Bench.due("worth(0) by deep", bench.parses.worth(0), 3);
        Bench.due("worth(1) by deep", bench.parses.worth(1), 1);
        Bench.due("worth(2) by deep", bench.parses.worth(2), 0);
    }

    private static void lawText() {
        Bench.edge(4, "LAW: E, at the end nothing more");
        badLaw("", 1, 0);
        badLaw("   ", 1, 3);
        goodLaw("1");
        goodLaw(" 1 ");
        badLaw("1 1", 1, 2);
        badLaw("1;", 1, 1);
        badLaw("1)", 1, 1);
        badLaw("1]", 1, 1);
        badLaw("1,2", 1, 1);
        badLaw("1\u0000", 1, 1);
        badLaw("1\u0009", 1, 1);
        Bench.edge(4, "of + - no T is left out, of * / % no U");
        for (char sign : "+-*/%".toCharArray()) {
            goodLaw("1" + sign + "2");
            goodLaw("1 " + sign + " 2");
            badLaw("1" + sign, 1, 2);
            badLaw("" + sign + "1", 1, 0);
            badLaw("1" + sign + sign + "1", 1, 2);
            badLaw("(1" + sign + ")", 1, 3);
        }
        worth("2+3*4", 14);
        worth("2*3+4", 10);
        worth("10-4-3", 3);
        worth("100/10/5", 2);
        worth("100/10*5", 50);
        worth("100%30*2", 20);
        worth("2-3%2", 1);
        Bench.edge(4, "1 at the length, if the LAW ends too early");
        String text = "least[1,most[2,(3)]]*(to-0)";
        for (int n = 0; n < text.length(); n++) {
            String cut = text.substring(0, n);
            int place = n;
            if (n > 0 && n < 5) place = 0;
            if (n > 8 && n < 12) place = 8;
            if (n == 23) place = 22;
            if (n == 20) goodLaw(cut);
            else badLaw(cut, 1, place);
        }
        goodLaw(text);
        Bench.edge(4, "a FAULT is one, though the LAW could go on behind it");
        badLaw("least 1,1]", 1, 6);
        badLaw("least[1 1]", 1, 8);
        badLaw("least[1,1)", 1, 9);
        badLaw("least[,1]", 1, 6);
        badLaw("least[1,]", 1, 8);
        badLaw("(1]", 1, 2);
        badLaw("()", 1, 1);
        badLaw("1000+1", 2, 0);
        badLaw("sorts+1", 1, 0);
        Bench.edge(4, "blanks may stand ahead of all names, numbers and signs of a LAW");
        goodLaw("  least  [  1  ,  most  [  2  ,  (  3  )  ]  ]  *  (  to  -  0  )  ");
        badLaw("le ast[1,2]", 1, 0);
        badLaw("1 2", 1, 2);
        worth("least [ 4 , 5 ]", 4);
    }

    private static void lawOpens() {
        Bench.edge(4, "a 7th ( that is open at one time in a LAW");
        goodLaw("(((((1)))))");
        goodLaw("((((((1))))))");
        badLaw("(((((((1)))))))", 3, 6);
        badLaw("((((((?", 1, 6);
        Bench.edge(4, "a 7th least or most that is open at one time");
        for (String name : new String[] {"least", "most"}) {
            String six = Bench.times(name + "[", 6) + "1" + Bench.times(",1]", 6);
            goodLaw(six);
            badLaw(name + "[" + six + ",1]", 3, 6 * (name.length() + 1));
            badLaw(Bench.times(name + "[", 6) + " " + name, 3, 6 * (name.length() + 1) + 1);
            badLaw(Bench.times(name + "[", 6) + name + "s", 1, 6 * (name.length() + 1));
            String behind = Bench.times(name + "[1,", 6) + "1" + Bench.times("]", 6);
            goodLaw(behind);
            badLaw(name + "[1," + behind + "]", 3, 6 * (name.length() + 3));
        }
        Bench.edge(4, "a 7th of all three together");
        goodLaw("(least[(most[(least[1,2]),3]),4])");
        badLaw("(least[(most[(least[(1),2]),3]),4])", 3, 20);
        badLaw("(least[(most[(least[most[1,1],2]),3]),4])", 3, 20);
        Bench.edge(4, "what is closed is open no more");
        goodLaw("((((((1))))))+((((((2))))))*((((((3))))))");
        goodLaw("least[((((1)))),((((2))))]+most[((((1)))),((((2))))]");
        goodLaw("least[(((((1))))),(((((2)))))]");
        badLaw("least[(((((1))))),((((((2))))))]", 3, 23);
        goodLaw("least[1,1]" + Bench.times("+least[1,1]", 8));
        goodLaw("most[1,1]" + Bench.times("+most[1,1]", 8));
        goodLaw("(1)" + Bench.times("+(1)", 8));
    }
}
