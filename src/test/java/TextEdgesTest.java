/** Boundary cases of promise 3, and of what Terms say of the text of a grammar: both sides of each. */
public final class TextEdgesTest {
    public static void main(String[] args) {
        classes();
        productions();
        parts();
        quotes();
        nots();
        drops();
        lays();
        wordLengths();
        wordOfQuote();
        signsOfWords();
        signsOfBrackets();
        ranges();
        bytesOutside();
        numbers();
        names();
        blanks();
        cutShort();
        cutShortByN();
        opens();
        faultsAheadOfTheEnd();
        opensOfOtherTexts();
        leastOfOnePlace();
        firstFromTheLeft();
        needsWhatDropsIt();
        Bench.closeEdges("TextEdgesTest", 3, 3);
    }

    private static void classes() {
        Bench.edge(3, "CLASSES, numbered from 0 on, 8 at most");
        String seven = Bench.times("class[a];", 7);
        Bench.good(seven + "class #6;rule 0 #7;", 1);
        Bench.bad(seven + "class #7;", 2, seven.length() + 7, 7);
        Bench.bad(seven + "class[a];class[a];", 3, seven.length() + 9, 8);
        Bench.bad(seven + "class[a]; class", 3, seven.length() + 10, 8);
        Bench.bad(seven + "class[a];classy[a];", 1, seven.length() + 9, 8);
        Bench.bad(seven + "class[a];rule0 #8;", 2, seven.length() + 16, 8);
        Bench.edge(3, "a CLASS told ahead");
        Bench.good("class [a];class #0;", 0);
        Bench.bad("class #0;", 2, 7, 0);
        Bench.bad("class [a];class #1;", 2, 17, 1);
        Bench.bad("class [a]|#0;", 2, 11, 0);
        Bench.bad("class (#0);", 2, 8, 0);
        Bench.bad("class ~#0;", 2, 8, 0);
        Bench.good("class [a];rule 0 #0;", 1);
        Bench.bad("rule 0 #0;class [a];", 2, 8, 0);
        Bench.bad("class [a];rule 0 #1;class [a];", 2, 18, 1);
        Bench.good("class [a];not 0 #0;lay #0;", 0);
        Bench.bad("not 0 #0;class [a];", 2, 7, 0);
        Bench.bad("lay #0;class [a];", 2, 5, 0);
        Bench.bad("class [a];lay #1;", 2, 15, 1);
        Bench.bad("class [a];not 0 #1;", 2, 17, 1);
    }

    private static void productions() {
        Bench.edge(3, "PRODUCTIONS, rules and tokens in one row, 20 at most");
        String nineteen = Bench.times("rule 0;", 9) + Bench.times("token 0;", 10);
        Bench.good(nineteen, 19);
        Bench.good(nineteen + "rule 7;", 20);
        Bench.good(nineteen + "token 7;", 20);
        for (String last : new String[] {"rule 7;", "token 7;"}) {
            int place = nineteen.length() + last.length();
            Bench.bad(nineteen + last + "rule 0;", 3, place, 20);
            Bench.bad(nineteen + last + " token 9", 3, place + 1, 20);
            Bench.bad(nineteen + last + "rules", 1, place, 20);
            Bench.good(nineteen + last + "drop 0 1;", 20);
        }
        Bench.edge(3, "SORT S, 0 to 7");
        for (String name : new String[] {"rule ", "token "}) {
            Bench.good(name + "0;", 1);
            Bench.good(name + "7;", 1);
            Bench.bad(name + "8;", 2, name.length(), 0);
            Bench.bad(name + "-1;", 1, name.length(), 0);
        }
    }

    private static void parts() {
        Bench.edge(3, "of 4 EL at most: none, one, four");
        Bench bench = Bench.with("class [a];rule 0;rule 0 #0;token 0 @1;token 0 'a';rule 0 #0 @1 'b' #0;");
        int[] due = {0, 1, 1, 1, 4};
        for (int k = 0; k < due.length; k++) Bench.due("production(" + k + ", 2)", bench.parses.production(k, 2), due[k]);
        Bench.edge(3, "a 5th EL is 3 at it");
        Bench.bad("rule 0 @1 @1 @1 @1 @1;", 3, 19, 0);
        Bench.bad("class [a];rule 0#0#0#0#0#0;", 3, 24, 1);
        Bench.bad("token 0'a''b''c''d''e';", 3, 19, 0);
        Bench.bad("token 0'a''b''c''d'@", 3, 19, 0);
        Bench.bad("token 0'a''b''c''d' #9", 3, 20, 0);
        Bench.bad("token 0'a''b''c''d'''", 3, 19, 0);
        Bench.edge(3, "behind four EL what is none");
        Bench.bad("token 0'a''b''c''d'0;", 1, 19, 0);
        Bench.bad("token 0'a''b''c''d'", 1, 19, 0);
        Bench.bad("token 0'a''b''c''d'[", 1, 19, 0);
        Bench.edge(3, "EL: @ S, 0 to 7");
        Bench.good("rule 0 @0;", 1);
        Bench.good("rule 0 @7;", 1);
        Bench.bad("rule 0 @8;", 2, 8, 0);
        Bench.bad("rule 0 @;", 1, 8, 0);
        Bench.bad("rule 0 @1@;", 1, 10, 0);
    }

    private static void quotes() {
        Bench.edge(3, "QUOTES, 4 at most");
        String three = Bench.times("quote 0 0 'abc';", 3);
        Bench.good(three, 0);
        Bench.good(three + "quote 7 7 'abc';", 0);
        Bench.bad(three + "quote 7 7 'abc';quote 0 0 'abc';", 3, 64, 4);
        Bench.bad(three + "quote 7 7 'abc';  quote", 3, 66, 4);
        Bench.bad(three + "quote 7 7 'abc';quotes", 1, 64, 4);
        Bench.good(three + "quote 7 7 'abc';rule 0;", 1);
        Bench.edge(3, "quote S T: 0 to 7 each");
        Bench.good("quote 0 7 'abc';", 0);
        Bench.good("quote 7 0 'abc';", 0);
        Bench.bad("quote 8 0 'abc';", 2, 6, 0);
        Bench.bad("quote 0 8 'abc';", 2, 8, 0);
        Bench.good("quote 3 3 'abc';", 0);
    }

    private static void nots() {
        Bench.edge(3, "not, 8 at most");
        String seven = "class[a];" + Bench.times("not 0 #0;", 7);
        Bench.good(seven, 0);
        Bench.good(seven + "not 7 #0;", 0);
        Bench.bad(seven + "not 7 #0;not 0 #0;", 3, 81, 9);
        Bench.bad(seven + "not 7 #0; not", 3, 82, 9);
        Bench.bad(seven + "not 7 #0;nots", 1, 81, 9);
        Bench.good(seven + "not 7 #0;rule 0;", 1);
        Bench.edge(3, "not S: 0 to 7");
        Bench.bad("class[a];not 8 #0;", 2, 13, 1);
        Bench.good("class[a];not 0 #0;", 0);
    }

    private static void drops() {
        Bench.edge(3, "drop, 8 at most");
        String seven = Bench.times("drop 0 7;", 7);
        Bench.good(seven, 0);
        Bench.good(seven + "drop 7 6;", 0);
        Bench.bad(seven + "drop 7 6;drop 0 1;", 3, 72, 8);
        Bench.bad(seven + "drop 7 6; drop", 3, 73, 8);
        Bench.bad(seven + "drop 7 6;drops", 1, 72, 8);
        Bench.good(seven + "drop 7 6;rule 0;", 1);
        Bench.edge(3, "drop S T, T not S");
        Bench.good("drop 0 1;", 0);
        Bench.good("drop 7 6;", 0);
        for (int sort = 0; sort < 8; sort++) Bench.bad("drop " + sort + " " + sort + ";", 2, 7, 0);
        Bench.bad("drop 0  00;", 2, 8, 0);
        Bench.bad("drop 8 8;", 2, 5, 0);
        Bench.bad("drop 7 8;", 2, 7, 0);
    }

    private static void lays() {
        Bench.edge(3, "lay: the last counts; none without");
        Bench bench = Bench.with("class[a];rule 0;");
        Bench.due("told(5) without", bench.parses.told(5), -1);
        bench.grammar("class[a];class[b];lay #1;");
        Bench.due("told(5) of one", bench.parses.told(5), 1);
        bench.grammar("class[a];class[b];lay #1;lay #0;");
        Bench.due("told(5) of two", bench.parses.told(5), 0);
        bench.grammar("class[a];class[b];lay #0;rule 0;lay #1;lay #0;lay #1;");
        Bench.due("told(5) of four", bench.parses.told(5), 1);
        bench.grammarFault("class[a];class[b];lay #0;lay #2;", 2, 30, 3);
        Bench.due("told(5) behind a FAULT", bench.parses.told(5), 1);
        bench.grammar("rule 0;");
        Bench.due("told(5) without one again", bench.parses.told(5), -1);
    }

    private static void wordLengths() {
        Bench.edge(3, "WORD: 1 to 8 SIGNS; of none 1 at the second '");
        Bench.bad("token 0 '';", 1, 9, 0);
        Bench.good("token 0 'a';", 1);
        Bench.good("token 0 '12345678';", 1);
        Bench.edge(3, "WORD: 1 to 8 SIGNS; a longer one 2 at its closing '");
        Bench.bad("token 0 '123456789';", 2, 18, 0);
        Bench.bad("token 0 '123456789'", 2, 18, 0);
        Bench.bad("token 0 '123456789abcdefgh'@9;", 2, 26, 0);
        Bench.edge(3, "WORD without a closing ': 1 at the length");
        Bench.bad("token 0 '", 1, 9, 0);
        Bench.bad("token 0 'a", 1, 10, 0);
        Bench.bad("token 0 '12345678", 1, 17, 0);
        Bench.bad("token 0 '123456789", 1, 18, 0);
        Bench.bad("token 0 '123456789;", 1, 19, 0);
        Bench.edge(3, "WORD: escaped SIGNS are one each");
        Bench.good("token 0 '\\1\\2\\3\\4\\5\\6\\7\\8';", 1);
        Bench.bad("token 0 '\\1\\2\\3\\4\\5\\6\\7\\89';", 2, 26, 0);
        Bench.good("token 0 '\\'\\'\\'\\'\\'\\'\\'\\'';", 1);
        Bench.bad("token 0 '\\'", 1, 11, 0);
        Bench.bad("token 0 '\\", 1, 10, 0);
        Bench bench = Bench.with("token 0 '\\1\\2\\3\\4\\5\\6\\7\\8';token 1 '\\\\';").type("12345678");
        Bench.due("is(0, 0, 8)", bench.parses.is(0, 0, 8), true);
        bench.type("\\");
        Bench.due("is(1, 0, 1)", bench.parses.is(1, 0, 1), true);
    }

    private static void wordOfQuote() {
        Bench.edge(3, "WORD of a QUOTE, of just three SIGNS: else 2 at its closing '");
        Bench.good("quote 0 0 'abc';", 0);
        Bench.bad("quote 0 0 'a';", 2, 12, 0);
        Bench.bad("quote 0 0 'ab';", 2, 13, 0);
        Bench.bad("quote 0 0 'abcd';", 2, 15, 0);
        Bench.bad("quote 0 0 '12345678';", 2, 19, 0);
        Bench.bad("quote 0 0 '123456789';", 2, 20, 0);
        Bench.edge(3, "WORD of a QUOTE without a closing ': 1 at the length");
        Bench.bad("quote 0 0 'ab", 1, 13, 0);
        Bench.bad("quote 0 0 'abc", 1, 14, 0);
        Bench.bad("quote 0 0 'abb", 1, 14, 0);
        Bench.bad("quote 0 0 'abcd;", 1, 16, 0);
        Bench.edge(3, "WORD of a QUOTE, of none: 1 at the second '");
        Bench.bad("quote 0 0 '';", 1, 11, 0);
        Bench.edge(3, "WORD of a QUOTE, the third one unlike both others: else 2 at its beginning");
        Bench.good("quote 0 0 'aab';", 0);
        Bench.bad("quote 0 0 'aba';", 2, 10, 0);
        Bench.bad("quote 0 0 'baa';", 2, 10, 0);
        Bench.bad("quote 0 0 'aaa';", 2, 10, 0);
        Bench.bad("quote 0 0   'aba'", 2, 12, 0);
        Bench.bad("quote 0 0 '\\a\\ba';", 2, 10, 0);
        Bench.edge(3, "WORD of a QUOTE: not of three comes ahead of alike ones");
        Bench.bad("quote 0 0 'abab';", 2, 15, 0);
        Bench.bad("quote 0 0 'aa';", 2, 13, 0);
        Bench.edge(3, "WORD of a QUOTE with SIGNS that are escaped");
        Bench.good("quote 0 0 '\\'\\'\\\\';", 0);
        Bench.good("quote 0 0 '[] ';", 0);
        Bench.bad("quote 0 0 '\\'\\'\\'';", 2, 10, 0);
    }

    /** What a byte that can't stand there does: it is 1 at it. */
    private static void signsOfWords() {
        Bench.edge(3, "SG in a WORD: each SIGN but ' and \\, bytes 32 to 126");
        for (int sign = 0; sign < 256; sign++) {
            String text = "token 0 '" + (char) sign + "';";
            if (sign == '\'') Bench.bad(text, 1, 9, 0);
            else if (sign == '\\') Bench.bad(text, 1, 12, 0);
            else if (sign < 32 || sign > 126) Bench.bad(text, 1, 9, 0);
            else isWord(text, sign);
        }
        Bench.edge(3, "SG in a WORD: \\ and any SIGN behind it");
        for (int sign = 0; sign < 256; sign++) {
            String text = "token 0 '\\" + (char) sign + "';";
            if (sign < 32 || sign > 126) Bench.bad(text, 1, 10, 0);
            else isWord(text, sign);
        }
    }

    private static void isWord(String text, int sign) {
        Bench.good(text, 1);
        Bench bench = Bench.with(text).type("" + (char) sign);
        Bench.due("is(0, 0, 1) by " + text, bench.parses.is(0, 0, 1), true);
        Bench.due("begins(0, " + sign + ") by " + text, bench.parses.begins(0, sign), true);
        Bench.due("sort(0, 2) by " + text, bench.parses.sort(0, 2), 1);
    }

    private static void signsOfBrackets() {
        Bench.edge(3, "SG in [ ]: each SIGN but \\ ] - and no blank, bytes 33 to 126");
        for (int sign = 0; sign < 256; sign++) {
            String text = "class [" + (char) sign + "];";
            if (sign == ']') Bench.bad(text, 1, 8, 0);
            else if (sign == '\\') Bench.bad(text, 1, 10, 0);
            else if (sign < 33 || sign > 126 || sign == '-') Bench.bad(text, 1, 7, 0);
            else isClass(text, sign);
        }
        Bench.edge(3, "SG in [ ]: \\ and any SIGN behind it");
        for (int sign = 0; sign < 256; sign++) {
            String text = "class [\\" + (char) sign + "];";
            if (sign < 32 || sign > 126) Bench.bad(text, 1, 8, 0);
            else isClass(text, sign);
        }
        Bench.edge(3, "[ ] of no SG, of many");
        Bench.good("class [];", 0);
        Bench.good("class [abcabc];", 0);
        Bench.bad("class [", 1, 7, 0);
        Bench.bad("class [abc", 1, 10, 0);
        Bench.bad("class [abc\\", 1, 11, 0);
    }

    private static void isClass(String text, int sign) {
        Bench bench = Bench.with(text);
        Bench.due("group(0, 0) by " + text, bench.parses.group(0, 0), 1);
        Bench.due("group(0, 1) by " + text, bench.parses.group(0, 1), sign);
    }

    private static void ranges() {
        Bench.edge(3, "the second one not below the first: else 2 at it");
        Bench bench = Bench.with("class [b-b];class [b-c];class [\\ -~];class [\\ -!];class [}-~];class [0-9a-fA-F];");
        int[] many = {1, 2, 95, 2, 2, 22};
        for (int k = 0; k < many.length; k++) Bench.due("group(" + k + ", 0)", bench.parses.group(k, 0), many[k]);
        Bench.bad("class [b-a];", 2, 9, 0);
        Bench.bad("class [c-a];", 2, 9, 0);
        Bench.bad("class [~-}];", 2, 9, 0);
        Bench.bad("class [ab-a", 2, 10, 0);
        Bench.bad("class [\\b-a];", 2, 10, 0);
        Bench.edge(3, "a - that has no SG on one side");
        Bench.bad("class [-a];", 1, 7, 0);
        Bench.bad("class [a-];", 1, 9, 0);
        Bench.bad("class [a-b-c];", 1, 10, 0);
        Bench.bad("class [a--];", 1, 9, 0);
        Bench.bad("class [a- b];", 1, 9, 0);
        Bench.bad("class [a -b];", 1, 8, 0);
        Bench.bad("class [a-", 1, 9, 0);
        Bench.bad("class [a-\u007f];", 1, 9, 0);
        Bench.edge(3, "a - that is escaped is a SIGN");
        bench = Bench.with("class [a\\-c];class [+-\\-];class [\\--/];class [\\]-_];class [\\[-\\]];");
        int[] more = {3, 3, 3, 3, 3};
        for (int k = 0; k < more.length; k++) Bench.due("group(" + k + ", 0)", bench.parses.group(k, 0), more[k]);
    }

    private static void bytesOutside() {
        Bench.edge(3, "behind a CLAUSE blanks alone, and the next one");
        for (int sign = 0; sign < 256; sign++) {
            String text = "rule 0;" + (char) sign;
            if (sign == ' ') Bench.good(text, 1);
            else Bench.bad(text, 1, 7, 1);
        }
        Bench.edge(3, "behind a number of a rule");
        for (int sign = 0; sign < 256; sign++) {
            String text = "rule 0" + (char) sign;
            boolean goesOn = "#@' 01234567".indexOf(sign) >= 0;
            if (sign == ';') Bench.good(text, 1);
            else if (sign == '8' || sign == '9') Bench.bad(text, 2, 5, 0);
            else Bench.bad(text, 1, goesOn ? 7 : 6, 0);
        }
    }

    private static void numbers() {
        Bench.edge(3, "numbers: digits, as many as stand there");
        Bench.good("rule 00000000000000000000007;", 1);
        Bench.good("rule 7@0000;", 1);
        Bench.bad("rule 70;", 2, 5, 0);
        Bench.bad("rule 00000000000000000000008;", 2, 5, 0);
        Bench.bad("rule 10000000000000000000000;", 2, 5, 0);
        Bench.edge(3, "numbers too great for 32 and 64 bits are none such");
        for (String number : new String[] {"4294967296", "4294967295", "2147483648", "18446744073709551616", "9223372036854775808", "99999999999"}) {
            Bench.bad("rule " + number + ";", 2, 5, 0);
            Bench.bad("rule 0 @" + number + ";", 2, 8, 0);
            Bench.bad("class [a];lay #" + number + ";", 2, 15, 1);
        }
        Bench.edge(3, "no digit where a number is due: 1 at what stands there");
        Bench.bad("rule ;", 1, 5, 0);
        Bench.bad("rule a;", 1, 5, 0);
        Bench.bad("rule +1;", 1, 5, 0);
        Bench.bad("rule /;", 1, 5, 0);
        Bench.bad("rule :;", 1, 5, 0);
        Bench.bad("class [a];rule 0 #;", 1, 18, 1);
        Bench.bad("drop 1;", 1, 6, 0);
        Bench.bad("quote 1 'abc';", 1, 8, 0);
    }

    private static void names() {
        Bench.edge(3, "names: small letters, as many as stand there");
        Bench.good("rule0;token0;class[a];not0#0;drop0 1;lay#0;quote0 0'abc';", 2);
        Bench.bad("rules 0;", 1, 0, 0);
        Bench.bad("rul 0;", 1, 0, 0);
        Bench.bad("ruleclass [a];", 1, 0, 0);
        Bench.bad("ruLe 0;", 1, 0, 0);
        Bench.bad("Rule 0;", 1, 0, 0);
        Bench.bad("rule0;  laz #0;", 1, 8, 1);
        for (String name : new String[] {"class", "rule", "token", "quote", "not", "drop", "lay"}) {
            Bench.bad(name + "z 0;", 1, 0, 0);
            Bench.bad(name.substring(1) + " 0;", 1, 0, 0);
            Bench.bad(name.substring(0, name.length() - 1) + " 0;", 1, 0, 0);
            Bench.bad(name, 1, name.length(), 0);
            Bench.bad(name + "  ", 1, name.length() + 2, 0);
        }
        Bench.edge(3, "names: bytes just beside the small letters end them");
        Bench.bad("rule`0;", 1, 4, 0);
        Bench.bad("rule{0;", 1, 4, 0);
        Bench.bad("`rule 0;", 1, 0, 0);
    }

    private static final String[] TOKENS = {"class", "[a]", "|", "~", "(", "[b]", "&", "[c]", "-", "[d]", ")", ";", "class", "#", "0", ";",
        "rule", "0", "#", "1", "@", "2", "'x y'", ";", "token", "1", ";", "quote", "1", "2", "'<>!'", ";",
        "not", "0", "#", "0", ";", "drop", "3", "4", ";", "lay", "#", "1", ";"};

    private static boolean isNumber(String token) {
        return token.charAt(0) >= '0' && token.charAt(0) <= '9';
    }

    private static void blanks() {
        Bench.edge(3, "blanks may stand ahead of all names, numbers and signs, and at the end; none must");
        StringBuilder wide = new StringBuilder();
        StringBuilder narrow = new StringBuilder();
        for (int k = 0; k < TOKENS.length; k++) {
            wide.append("  ").append(TOKENS[k]);
            if (k > 0 && isNumber(TOKENS[k]) && isNumber(TOKENS[k - 1])) narrow.append(' ');
            narrow.append(TOKENS[k]);
        }
        Bench.good(wide + "  ", 2);
        Bench.good(narrow.toString(), 2);
        Bench.edge(3, "no other byte may stand where a blank may");
        for (int gap = 0; gap <= TOKENS.length; gap++) {
            StringBuilder text = new StringBuilder();
            int clause = 0;
            for (int k = 0; k < gap; k++) {
                text.append(' ').append(TOKENS[k]);
                if (TOKENS[k].equals(";")) clause++;
            }
            for (char sign : new char[] {9, 10, 13, 0, 31, 127, 160}) Bench.bad(text.toString() + sign, 1, text.length(), clause);
        }
        Bench.edge(3, "no blanks within names, numbers, [ ]; in a WORD they are SIGNS");
        Bench.bad("ru le 0;", 1, 0, 0);
        Bench.bad("rule 0 @0 0;", 1, 10, 0);
        Bench.bad("class [a b];", 1, 8, 0);
        Bench.bad("class [ a];", 1, 7, 0);
        Bench.bad("class [a ];", 1, 8, 0);
        Bench.bad("class [ ];", 1, 7, 0);
        Bench bench = Bench.with("token 0 ' a ';").type(" a ");
        Bench.due("is(0, 0, 3)", bench.parses.is(0, 0, 3), true);
    }

    /** Each text that ends too early is 1 at its length, but a name that is cut short is none. */
    private static void cutShort() {
        Bench.edge(3, "1 at the length, if the text ends too early");
        StringBuilder whole = new StringBuilder();
        int clause = 0;
        for (String token : TOKENS) {
            boolean name = token.charAt(0) >= 'a' && token.charAt(0) <= 'z';
            whole.append(' ');
            for (int n = 0; n <= token.length(); n++) {
                String text = whole + token.substring(0, n);
                boolean done = n == token.length() && token.equals(";");
                boolean ended = name && n == 0 || done;
                if (ended && !done) Bench.good(text, clause < 3 ? 0 : clause == 3 ? 1 : 2);
                else if (!done && name && n < token.length()) Bench.bad(text, 1, whole.length(), clause);
                else if (!done) Bench.bad(text, 1, text.length(), clause);
            }
            whole.append(token);
            if (token.equals(";")) clause++;
            if (token.equals(";")) Bench.good(whole.toString(), clause < 3 ? 0 : clause == 3 ? 1 : 2);
        }
    }

    /** What stands on the TAPE behind the n bytes is not read. */
    private static void cutShortByN() {
        Bench.edge(3, "the first n bytes: what is behind them is nothing");
        String text = "class [a-c]|[d];token 0 'abc' @07 #0;quote 0 1 '<>!';";
        int[] good = {0, 16, 37, 53};
        int[] names = {0, 16, 37};
        int[] ends = {5, 21, 42};
        for (int n = 0; n <= text.length(); n++) {
            Bench bench = new Bench();
            bench.feed(text);
            int answer = bench.parses.grammar(n);
            int place = n;
            int clause = 0;
            boolean whole = false;
            for (int k = 0; k < 3; k++) {
                if (n > names[k] && n < ends[k]) place = names[k];
                if (n >= good[k + 1]) clause++;
            }
            for (int end : good) whole |= n == end;
            Bench.due("grammar(" + n + ")", answer, whole ? clause > 1 ? 1 : 0 : -9);
            Bench.due("fault() of grammar(" + n + ")", bench.parses.fault(), whole ? -1 : place);
            Bench.due("faulted() of grammar(" + n + ")", bench.parses.faulted(), whole ? -1 : clause);
        }
    }

    private static void opens() {
        Bench.edge(3, "a 7th ( that is open at one time");
        Bench.good("class ((((([a])))));", 0);
        Bench.good("class (((((([a]))))));", 0);
        Bench.bad("class ((((((([a])))))));", 3, 12, 0);
        Bench.bad("class (((((((", 3, 12, 0);
        Bench.bad("class ((((((?", 1, 12, 0);
        Bench.edge(3, "a 7th ~ that is open at one time");
        Bench.good("class ~~~~~~[a];", 0);
        Bench.bad("class ~~~~~~~[a];", 3, 12, 0);
        Bench.bad("class ~~~~~~~", 3, 12, 0);
        Bench.bad("class ~~~~~~?", 1, 12, 0);
        Bench.edge(3, "a 7th of both together");
        Bench.good("class ~(~(~([a])));", 0);
        Bench.bad("class ~(~(~(~[a])));", 3, 12, 0);
        Bench.bad("class ~(~(~(([a]))));", 3, 12, 0);
        Bench.good("class (~~~~~[a]);", 0);
        Bench.bad("class (~~~~~~[a]);", 3, 12, 0);
        Bench.good("class ~((((([a])))));", 0);
        Bench.bad("class ~(((((([a]))))));", 3, 12, 0);
        Bench.edge(3, "a ~ is open until its CT ends, a ( until its )");
        Bench.good("class ~~~~~~[a]|~~~~~~[b]&~~~~~~[c];", 0);
        Bench.good("class (((((([a]))))))|(((((([b]))))));", 0);
        Bench.good("class ~~~~~~[];class ~~~~~~#0|~~~~~~#0;", 0);
        Bench.good("class (((((~[a]|~[b]-~[c])))));", 0);
        Bench.bad("class (((((~[a]|~~[b])))));", 3, 17, 0);
        Bench.good("class (((((([a]))))|(([b]))))|~~~~~~[c];", 0);
        Bench.bad("class (((((([a]))))|((([b]))|(((([c]", 3, 32, 0);
        Bench.edge(3, "six open at one time, each behind another CT");
        Bench bench = Bench.with("class [a-h]-([a-g]-([a-f]-([a-e]-([a-d]-([a-c]-([ab]-[b]))))));class ~([a]|~([b]|~([c]|[d])))&[a-e];");
        Bench.due("group(0, 0)", bench.parses.group(0, 0), 4);
        Bench.due("holds(0, 'a')", bench.parses.holds(0, 'a'), true);
        Bench.due("holds(0, 'b')", bench.parses.holds(0, 'b'), false);
        Bench.due("group(1, 0)", bench.parses.group(1, 0), 2);
        Bench.due("holds(1, 'b')", bench.parses.holds(1, 'b'), true);
        Bench.bad("class [a]-([a]-([a]-([a]-([a]-([a]-([a]-([b])))))));", 3, 40, 0);
        Bench.edge(3, "in one CLASS none are open from the one ahead");
        Bench.good("class ~~~~~~[a];class ~~~~~~[a];class (((((([a]))))));", 0);
    }

    private static void faultsAheadOfTheEnd() {
        Bench.edge(3, "a FAULT is one, though a CLAUSE could end just behind it");
        Bench.bad("class;", 1, 5, 0);
        Bench.bad("class [ ;", 1, 7, 0);
        Bench.bad("class [a- ;", 1, 9, 0);
        Bench.bad("class #0;", 2, 7, 0);
        Bench.bad("class ~;", 1, 7, 0);
        Bench.bad("class [a]|;", 1, 10, 0);
        Bench.bad("class ([a];", 1, 10, 0);
        Bench.bad("rule;", 1, 4, 0);
        Bench.bad("rule 8;", 2, 5, 0);
        Bench.bad("rule 0 #;", 1, 8, 0);
        Bench.bad("rule 0 #0;", 2, 8, 0);
        Bench.bad("rule 0 @8;", 2, 8, 0);
        Bench.bad("quote;", 1, 5, 0);
        Bench.bad("quote 8;", 2, 6, 0);
        Bench.bad("quote 0;", 1, 7, 0);
        Bench.bad("quote 0 8;", 2, 8, 0);
        Bench.bad("quote 0 0;", 1, 9, 0);
        Bench.bad("quote 8 0 'abc';", 2, 6, 0);
        Bench.bad("quote 0 0 'abcd';", 2, 15, 0);
        Bench.bad("quote 0 0 abc';", 1, 10, 0);
        Bench.bad("not;", 1, 3, 0);
        Bench.bad("not 8;", 2, 4, 0);
        Bench.bad("class [a];not 8 #0;", 2, 14, 1);
        Bench.bad("not 0;", 1, 5, 0);
        Bench.bad("not 0 #0;", 2, 7, 0);
        Bench.bad("drop;", 1, 4, 0);
        Bench.bad("drop 8;", 2, 5, 0);
        Bench.bad("drop 8 0;", 2, 5, 0);
        Bench.bad("drop 0;", 1, 6, 0);
        Bench.bad("drop 0 8;", 2, 7, 0);
        Bench.bad("lay;", 1, 3, 0);
        Bench.bad("lay #;", 1, 5, 0);
        Bench.bad("lay #0;", 2, 5, 0);
    }

    private static void opensOfOtherTexts() {
        Bench.edge(3, "none are open from the text ahead, whatever its FAULT was");
        Bench bench = new Bench();
        for (int round = 0; round < 3; round++) {
            bench.grammarFault("class ((((((?", 1, 12, 0);
            Bench.due("grammar", bench.grammar("class ~~~~~~[a];rule 0;"), 1);
            bench.grammarFault("class ~~~~~~~[a];", 3, 12, 0);
            Bench.due("law", bench.law("((((((1))))))"), 1);
            bench.lawFault("((((((1", 1, 7);
            Bench.due("work", bench.work(Bench.times("again1[", 6) + "cut 0 0;" + Bench.times("];", 6)), 0);
            bench.workFault(Bench.times("again1[", 6) + "cut", 1, 45, 0);
            Bench.due("grammar", bench.grammar("class (((((([a]))))));"), 0);
        }
    }

    private static void leastOfOnePlace() {
        Bench.edge(3, "of one place the least: 1 ahead of 2");
        Bench.bad("quote 0 0 '';", 1, 11, 0);
        Bench.edge(3, "of one place the least: 1 ahead of 3");
        Bench.bad(Bench.times("class[];", 8) + "classs", 1, 64, 8);
        Bench.bad(Bench.times("rule 0;", 20) + "rulers", 1, 140, 20);
        Bench.bad("class ~~~~~~+", 1, 12, 0);
        Bench.edge(3, "of one place the least: 3 where nothing less is");
        Bench.bad(Bench.times("class[];", 8) + "class", 3, 64, 8);
    }

    private static void firstFromTheLeft() {
        Bench.edge(3, "the first FAULT from the left, whatever its kind");
        Bench.bad("rule 8 @9;", 2, 5, 0);
        Bench.bad("rule 0 @9 @1 @1 @1 @1;", 2, 8, 0);
        Bench.bad("rule 0 @1 @1 @1 @1 @9;", 3, 19, 0);
        Bench.bad("rule 0 @1 @1 @1 @9 @1;", 2, 17, 0);
        Bench.bad("token 0 '123456789\u0007';", 1, 18, 0);
        Bench.bad("token 0 '123456789'?;", 2, 18, 0);
        Bench.bad("class [b-a]?", 2, 9, 0);
        Bench.bad("class ?[b-a]", 1, 6, 0);
        Bench.bad("quote 0 0 'aba'?", 2, 10, 0);
        Bench.bad("quote 0 8 'aba'", 2, 8, 0);
    }

    private static void needsWhatDropsIt() {
        Bench.edge(3, "FAULT 4: T NEEDS S by a PRODUCTION, a QUOTE, a drop");
        Bench.good("drop 0 1;rule 0 @1;rule 1 @2;", 2);
        Bench.bad("drop 0 1;rule 1 @0;", 4, 0, 0);
        Bench.bad("drop 0 1;token 1 'a' 'b' 'c' @0;", 4, 0, 0);
        Bench.good("drop 0 1;quote 0 1 'abc';", 0);
        Bench.bad("drop 0 1;quote 1 0 'abc';", 4, 0, 0);
        Bench.good("drop 0 1;drop 1 2;drop 0 2;", 0);
        Bench.bad("drop 0 1;drop 1 0;", 4, 0, 0);
        Bench.edge(3, "FAULT 4: T NEEDS S through all other SORTS");
        String chain = "drop 0 1;rule 1 @2;rule 2 @3;rule 3 @4;quote 4 5 'abc';rule 5 @6;drop 6 7;";
        Bench.good(chain + "rule 7 @7;", 5);
        Bench.bad(chain + "rule 7 @0;", 4, 0, 0);
        Bench.bad(chain + "rule 7 @6;", 4, chain.indexOf("drop 6"), 6);
        String back = "rule 7 @0;drop 6 7;rule 5 @6;rule 4 @5;rule 3 @4;rule 2 @3;rule 1 @2;drop 0 1;";
        Bench.bad(back, 4, 10, 1);
        Bench.edge(3, "FAULT 4: at the word of the first drop by which it is so");
        Bench.bad("drop 0 1;drop 2 3;drop 3 2;", 4, 9, 1);
        Bench.bad("  drop 3 2;drop 2 3;", 4, 2, 0);
        Bench.bad("drop 4 5;drop 0 1;drop 0 1;rule 1 @0;", 4, 9, 1);
        Bench.bad("rule 1 @0;rule 7;drop 4 5; drop 0 1;", 4, 27, 3);
        Bench.edge(3, "FAULT 4 behind all others");
        Bench.bad("drop 0 1;drop 1 0;?", 1, 18, 2);
        Bench.bad("drop 0 1;drop 1 0;rule 8;", 2, 23, 2);
        Bench.bad("drop 0 1;drop 1 0", 1, 17, 1);
        Bench.bad("drop 0 1;rule 1 @0;" + Bench.times("rule 1;", 20), 3, 9 + 10 + 19 * 7, 21);
        Bench.edge(3, "a SORT may need itself");
        Bench.good("rule 0 @0;quote 1 1 'abc';rule 2 @3;rule 3 @2;drop 4 0;drop 4 2;", 3);
    }
}
