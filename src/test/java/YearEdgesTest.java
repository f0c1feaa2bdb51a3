/** Boundary cases of promises 31 to 36, and of what Terms say of a year: both sides of each. */
public final class YearEdgesTest {
    /** SORT 0: texts of an even length; 1: of 24 SIGNS; 5: of none; 7: those whose first SIGN is below @. */
    private static final String LENGTHS = "class ~[];class [\\ -?];token 0;token 0 @0 #0 #0;token 2 #0 #0 #0 #0;token 3 @2 @2;token 1 @3 @3 @3;"
        + "token 5;token 6;token 6 @6 #0;token 7 #1 @6;";

    /** A YEAR as Terms tell it, of a text of its own. */
    private static final class Year {
        private String text;
        private int seed;
        private int refused;
        private int even;
        /** How often an edit was at a boundary: see BOUNDARIES. */
        private final int[] met = new int[BOUNDARIES.length];

        private Year(String from, int firstSeed, int n) {
            text = from;
            seed = firstSeed;
            for (int time = 0; time < n; time++) {
                edit(draw(4));
                if (text.length() % 2 == 0) even++;
            }
        }

        private int draw(int most) {
            long next = (long) seed * 1103515245L + 12345L;
            seed = (int) next;
            return (int) ((next & 0xffffffffL) >> 16 & 32767) % most;
        }

        private void edit(int kind) {
            int length = text.length();
            if (kind < 2) {
                int place = draw(length + 1);
                char sign = (char) (32 + draw(95));
                meet(length == 24 ? 0 : length == 23 ? 1 : place == length ? 2 : 3);
                if (length == 24) refused++;
                else text = text.substring(0, place) + sign + text.substring(place);
            } else if (kind == 2) {
                int place = draw(length + 1);
                meet(length == 0 ? 4 : place == length ? 5 : place == length - 1 ? 6 : 7);
                if (place == length) refused++;
                else text = text.substring(0, place) + text.substring(place + 1);
            } else {
                swap(draw(24), draw(24));
            }
        }

        private void swap(int first, int second) {
            int length = text.length();
            boolean there = first < length && second < length;
            boolean alike = there && text.charAt(first) == text.charAt(second);
            meet(!there ? 8 : alike ? 9 : 10);
            if (!there || alike) {
                refused++;
                return;
            }
            char[] signs = text.toCharArray();
            signs[first] = text.charAt(second);
            signs[second] = text.charAt(first);
            text = new String(signs);
        }

        private void meet(int boundary) {
            met[boundary]++;
        }

        private int sorts() {
            int sorts = text.length() % 2 == 0 ? 1 : 0;
            if (text.length() == 24) sorts |= 1 << 1;
            if (text.length() == 4) sorts |= 1 << 2;
            if (text.length() == 8) sorts |= 1 << 3;
            if (text.isEmpty()) sorts |= 1 << 5;
            sorts |= 1 << 6;
            if (!text.isEmpty() && text.charAt(0) < '@') sorts |= 1 << 7;
            return sorts;
        }
    }

    private static final String[] BOUNDARIES = {"type in a full TEXT", "type of the 24th SIGN", "type at the length", "type within",
        "cut of none", "cut at the length", "cut of the last SIGN", "cut within", "swap where there is none", "swap of alike ones", "swap"};

    public static void main(String[] args) {
        years();
        seeds();
        yearRange();
        yearsOfOne();
        nothingStaysChanged();
        spans();
        seedsOfSpans();
        spanRange();
        images();
        whatAnImageKeeps();
        restoring();
        statusOfOthers();
        whatIsCounted();
        counts();
        Bench.closeEdges("YearEdgesTest", 31, 36);
    }

    private static Year held(Bench bench, String text, int seed, int n) {
        Year year = new Year(text, seed, n);
        String name = "year(" + seed + ", " + n + ", ";
        Bench.due(name + "0) of " + text, bench.parses.year(seed, n, 0), year.text.length());
        Bench.due(name + "1) of " + text, bench.parses.year(seed, n, 1), year.sorts());
        Bench.due(name + "2) of " + text, bench.parses.year(seed, n, 2), year.refused);
        Bench.due(name + "3) of " + text, bench.parses.year(seed, n, 3), year.even);
        return year;
    }

    private static void years() {
        String[] texts = {"", "a", "abc", "aaaaaaaaaaaa", "abcdefghijklmnopqrstuvw", "aaaaaaaaaaaaaaaaaaaaaaaa", "abcdefghijklmnopqrstuvwx"};
        int[] met = new int[BOUNDARIES.length];
        Bench.edge(31, "each edit, if it can be done: of empty, short, full TEXTS");
        for (String text : texts) {
            Bench bench = Bench.with(LENGTHS).type(text);
            for (int seed = 1; seed <= 24; seed++) {
                Year year = held(bench, text, seed, seed);
                for (int k = 0; k < met.length; k++) met[k] += year.met[k];
            }
            for (int seed = 100; seed < 120; seed++) {
                Year year = held(bench, text, seed * 7919, 24);
                for (int k = 0; k < met.length; k++) met[k] += year.met[k];
            }
            bench.textIs(text);
        }
        for (int k = 0; k < met.length; k++) Bench.due("there was a " + BOUNDARIES[k], met[k] > 0, true);
    }

    private static void seeds() {
        Bench.edge(31, "SEEDS of 32 bits, which wrap: the least, the greatest, those about 0");
        for (String text : new String[] {"", "abcdefghijkl", "abcdefghijklmnopqrstuvwx"}) {
            Bench bench = Bench.with(LENGTHS).type(text);
            int[] seeds = {Integer.MIN_VALUE, Integer.MIN_VALUE + 1, -2, -1, 0, 1, Integer.MAX_VALUE - 1, Integer.MAX_VALUE, 1 << 16, 1 << 30, 0x7fff8000};
            for (int seed : seeds) held(bench, text, seed, 24);
        }
        Bench.edge(31, "bits 16 to 30 of the SEED: neither bit 15 nor bit 31");
        Bench bench = Bench.with(LENGTHS).type("ab");
        for (int bit = 0; bit < 32; bit++) held(bench, "ab", 1 << bit, 9);
    }

    private static void yearRange() {
        Bench.edge(31, "n times (1 to 24)");
        Bench bench = Bench.with(LENGTHS).type("abc");
        PrunedParses parses = bench.parses;
        held(bench, "abc", 5, 1);
        held(bench, "abc", 5, 24);
        for (int n : new int[] {0, 25, -1, Integer.MIN_VALUE, Integer.MAX_VALUE}) bench.refuses("year(5, " + n + ", 0)", () -> parses.year(5, n, 0));
        Bench.edge(31, "another what");
        for (int what : new int[] {-1, 4, Integer.MIN_VALUE, Integer.MAX_VALUE}) bench.refuses("year(5, 1, " + what + ")", () -> parses.year(5, 1, what));
        bench.refuses("year(5, 0, 4)", () -> parses.year(5, 0, 4));
    }

    private static void yearsOfOne() {
        Bench.edge(31, "of one edit: by each kind, done or REFUSED, nothing or one counts");
        for (String text : new String[] {"", "ab", "aaaaaaaaaaaaaaaaaaaaaaaa"}) {
            Bench bench = Bench.with(LENGTHS).type(text);
            for (int seed = 0; seed < 40; seed++) held(bench, text, seed * 65537, 1);
        }
        Bench.edge(31, "2 none were REFUSED; 3 in none of these times");
        Bench bench = new Bench();
        boolean none = false;
        for (int seed = 0; seed < 40; seed++) {
            Year year = new Year("", seed, 3);
            Bench.due("year(" + seed + ", 3, 2)", bench.parses.year(seed, 3, 2), year.refused);
            none |= year.refused == 0;
        }
        Bench.due("there was one without", none, true);
        Bench without = new Bench();
        for (int seed = 0; seed < 9; seed++) Bench.due("year(" + seed + ", 24, 3) without a GRAMMAR", without.parses.year(seed, 24, 3), 0);
        Bench.edge(31, "1 and 3 of a TEXT of quotes within quotes, that one edit leaves as it is");
        Bench quotes = Bench.with("token 0 'x';quote 0 0 '<>!';quote 0 0 '()!';quote 0 0 '{}!';").type("<({x})>");
        int idle = 0;
        for (int seed = 0; seed < 400; seed++) {
            if (new Year("<({x})>", seed, 1).refused == 1) idle = seed;
        }
        Bench.due("year(" + idle + ", 1, 1)", quotes.parses.year(idle, 1, 1), 1);
        Bench.due("year(" + idle + ", 1, 3)", quotes.parses.year(idle, 1, 3), 1);
        Bench.due("span(" + idle + ", 1, 1, 2, 0)", quotes.parses.span(idle, 1, 1, 2, 0), 1);
        Bench.edge(31, "3 in all of these times");
        Bench all = Bench.with("class ~[];token 0;token 0 @0 #0;");
        Bench.due("year(1, 24, 3)", all.parses.year(1, 24, 3), 24);
        Bench.due("year(1, 1, 3)", all.parses.year(1, 1, 3), 1);
    }

    private static void nothingStaysChanged() {
        Bench.edge(31, "asked, nothing stays changed: the next one is of the same TEXT");
        Bench bench = Bench.with(LENGTHS).type("abc");
        int first = bench.parses.year(9, 24, 0);
        for (int k = 0; k < 3; k++) Bench.due("year(9, 24, 0)", bench.parses.year(9, 24, 0), first);
        bench.textIs("abc");
        Bench.due("told(9)", bench.parses.told(9), 0);
        Bench.due("count(2)", bench.parses.count(2), 1);
        Bench.due("undo()", bench.parses.undo(), 0);
        Bench.due("year(9, 24, 0) behind undo()", bench.parses.year(9, 24, 0), new Year("", 9, 24).text.length());
    }

    private static void span(Bench bench, String text, int seed, int many, int n) {
        int least = 24;
        int greatest = 0;
        int[] fitting = new int[8];
        for (int k = 0; k < many; k++) {
            Year year = new Year(text, seed + k, n);
            least = Math.min(least, year.text.length());
            greatest = Math.max(greatest, year.text.length());
            for (int sort = 0; sort < 8; sort++) fitting[sort] += year.sorts() >> sort & 1;
        }
        String name = "span(" + seed + ", " + many + ", " + n + ", ";
        Bench.due(name + "0, 0)", bench.parses.span(seed, many, n, 0, 0), least);
        Bench.due(name + "1, 7)", bench.parses.span(seed, many, n, 1, 7), greatest);
        for (int sort = 0; sort < 8; sort++) Bench.due(name + "2, " + sort + ")", bench.parses.span(seed, many, n, 2, sort), fitting[sort]);
    }

    private static void spans() {
        Bench.edge(32, "of one SEED, of four; the least length and the greatest of a short, of a full TEXT");
        for (String text : new String[] {"", "ab", "abcdefghijklmnopqrstuvwx"}) {
            Bench bench = Bench.with(LENGTHS).type(text);
            for (int many = 1; many <= 4; many++) {
                for (int seed = 0; seed < 3; seed++) span(bench, text, seed * 1000 - 1000, many, 8 * seed + many);
            }
            bench.textIs(text);
        }
        Bench.edge(32, "a length of 0, one of 24");
        Bench none = Bench.with(LENGTHS);
        int[] emptied = {-1, -1};
        for (int seed = 0; seed < 400 && emptied[0] < 0; seed++) {
            if (new Year("", seed, 1).text.isEmpty()) emptied[0] = seed;
        }
        Bench.due("span to a length of 0", none.parses.span(emptied[0], 1, 1, 1, 0), 0);
        Bench full = Bench.with(LENGTHS).type("abcdefghijklmnopqrstuvwx");
        for (int seed = 0; seed < 400 && emptied[1] < 0; seed++) {
            if (new Year("abcdefghijklmnopqrstuvwx", seed, 1).text.length() == 24) emptied[1] = seed;
        }
        Bench.due("span to a length of 24", full.parses.span(emptied[1], 1, 1, 0, 0), 24);
        Bench.edge(32, "by how many the TEXT is OF a SORT: none, all");
        Bench.due("span of SORT 6", full.parses.span(3, 4, 24, 2, 6), 4);
        Bench.due("span of SORT 4", full.parses.span(3, 4, 24, 2, 4), 0);
    }

    private static void seedsOfSpans() {
        Bench.edge(32, "seed, seed and 1, ..: they wrap behind the greatest");
        Bench bench = Bench.with(LENGTHS).type("ab");
        for (int below = 0; below < 4; below++) span(bench, "ab", Integer.MAX_VALUE - below, 4, 12);
        span(bench, "ab", Integer.MIN_VALUE, 4, 12);
        span(bench, "ab", -2, 4, 12);
    }

    private static void spanRange() {
        Bench.edge(32, "so many SEEDS (1 to 4)");
        Bench bench = Bench.with(LENGTHS).type("ab");
        PrunedParses parses = bench.parses;
        span(bench, "ab", 1, 1, 1);
        span(bench, "ab", 1, 4, 24);
        for (int many : new int[] {0, 5, -1, Integer.MIN_VALUE, Integer.MAX_VALUE}) bench.refuses("span of " + many, () -> parses.span(1, many, 1, 0, 0));
        Bench.edge(32, "n (1 to 24)");
        for (int n : new int[] {0, 25, -1, Integer.MIN_VALUE, Integer.MAX_VALUE}) bench.refuses("span of n " + n, () -> parses.span(1, 1, n, 0, 0));
        Bench.edge(32, "another what, no such SORT");
        Bench.due("span(1, 1, 1, 2, 7)", parses.span(1, 1, 1, 2, 7), new Year("ab", 1, 1).sorts() >> 7);
        for (int what : new int[] {-1, 3}) bench.refuses("span of what " + what, () -> parses.span(1, 1, 1, what, 0));
        for (int sort : new int[] {-1, 8}) {
            for (int what = 0; what < 3; what++) {
                int asked = what;
                bench.refuses("span of what " + what + ", SORT " + sort, () -> parses.span(1, 1, 1, asked, sort));
            }
        }
    }

    private static void images() {
        Bench.edge(33, "how many there are; -1: there are 3");
        Bench bench = new Bench();
        for (int k = 1; k <= 3; k++) Bench.due("image() " + k, bench.parses.image(), k);
        Bench.due("image() 4", bench.parses.image(), -1);
        Bench.due("image() 5", bench.parses.image(), -1);
        Bench.due("count(0)", bench.parses.count(0), 3);
        Bench.edge(33, "one that is gone leaves room for one");
        Bench.due("restore()", bench.parses.restore(), 2);
        Bench.due("image() again", bench.parses.image(), 3);
        Bench.due("image() behind it", bench.parses.image(), -1);
        Bench.edge(33, "-1 makes none: the latest stays as it was");
        bench = new Bench();
        for (int k = 0; k < 3; k++) {
            bench.work("type 0 '" + k + "';");
            bench.parses.image();
        }
        bench.work("type 0 'x';");
        Bench.due("image()", bench.parses.image(), -1);
        bench.textIs("x210");
        String[] due = {"0", "10", "210"};
        for (int left = 2; left >= 0; left--) {
            Bench.due("restore()", bench.parses.restore(), left);
            bench.textIs(due[left]);
        }
    }

    private static void whatAnImageKeeps() {
        Bench.edge(33, "of the TEXT: none, all 24 SIGNS");
        Bench bench = new Bench();
        bench.parses.image();
        bench.type("abcdefghijklmnopqrstuvwx");
        bench.parses.image();
        bench.work("cut 0 24;");
        bench.work("type 0 'xyz';");
        bench.parses.restore();
        bench.textIs("abcdefghijklmnopqrstuvwx");
        bench.parses.restore();
        bench.textIs("");
        Bench.edge(33, "and of the WORKS that can be undone: none, all 16");
        Bench full = new Bench();
        full.parses.image();
        for (int k = 0; k < 16; k++) full.work("type " + k + " '" + (char) ('a' + k) + "';");
        Bench.due("image() of 16", full.parses.image(), 2);
        Bench.due("work() 17", full.work("type 0 'x';"), -20);
        for (int left = 15; left >= 0; left--) full.parses.undo();
        full.work("type 0 'yz';");
        Bench.due("restore()", full.parses.restore(), 1);
        Bench.due("count(2)", full.parses.count(2), 16);
        Bench.due("work() 17 again", full.work("type 0 'x';"), -20);
        full.textIs("abcdefghijklmnop");
        for (int left = 15; left >= 0; left--) {
            Bench.due("undo()", full.parses.undo(), left);
            full.textIs("abcdefghijklmnop".substring(0, left));
        }
        Bench.due("undo() of none", full.parses.undo(), -1);
        full.work("type 0 'x';");
        Bench.due("restore() of none", full.parses.restore(), 0);
        Bench.due("count(2) of none", full.parses.count(2), 0);
        Bench.due("undo() of none again", full.parses.undo(), -1);
        full.textIs("");
        Bench.edge(33, "what comes behind it does not change it");
        bench = new Bench().type("abc");
        bench.parses.image();
        bench.work("swap 0 2;");
        bench.parses.undo();
        bench.parses.undo();
        bench.work("type 0 'zzz';");
        bench.parses.restore();
        bench.textIs("abc");
        bench.parses.undo();
        bench.textIs("");
    }

    private static void refuseOne(Bench bench) {
        bench.refuses("told(10)", () -> bench.parses.told(10));
    }

    private static void restoring() {
        Bench.edge(34, "how many are left; -1: there is none");
        Bench bench = new Bench();
        Bench.due("restore() of none", bench.parses.restore(), -1);
        for (int k = 0; k < 3; k++) bench.parses.image();
        for (int left = 2; left >= 0; left--) Bench.due("restore()", bench.parses.restore(), left);
        Bench.due("restore() of none again", bench.parses.restore(), -1);
        Bench.edge(34, "-1 changes nothing");
        bench.type("ab");
        bench.work("cut 9 9;");
        Bench.due("restore()", bench.parses.restore(), -1);
        bench.textIs("ab");
        Bench.due("told(9)", bench.parses.told(9), 1);
        Bench.due("count(2)", bench.parses.count(2), 2);
        Bench.edge(34, "all is as in the latest IMAGE, but what WORK does not change");
        bench = Bench.with("token 0 'ab';token 1 'b';").type("b");
        bench.parses.image();
        bench.type("ab");
        bench.law("7");
        bench.feed("x");
        refuseOne(bench);
        Bench.due("told(7)", bench.parses.told(7), 1);
        Bench.due("restore()", bench.parses.restore(), 0);
        Bench.due("told(7) behind restore()", bench.parses.told(7), 2);
        Bench.due("worth(1)", bench.parses.worth(1), 7);
        Bench.due("count(1)", bench.parses.count(1), 20);
        Bench.due("told(1)", bench.parses.told(1), 2);
        Bench.due("status(1)", bench.parses.status(1), 1);
        Bench.edge(34, "it is gone: the one ahead of it is the latest then");
        bench = new Bench();
        bench.parses.image();
        bench.type("a");
        bench.parses.image();
        bench.type("b");
        bench.parses.restore();
        bench.textIs("a");
        bench.parses.restore();
        bench.textIs("");
        Bench.edge(34, "no IMAGES behind grammar() without a FAULT, all behind one with");
        bench.parses.image();
        bench.grammarFault("?", 1, 0, 0);
        Bench.due("count(0) behind a FAULT", bench.parses.count(0), 1);
        bench.grammar("");
        Bench.due("restore() behind a GRAMMAR", bench.parses.restore(), -1);
    }

    private static void statusOfOthers() {
        Bench.edge(35, "NONE for others");
        PrunedParses parses = new Bench().parses;
        Bench.due("status(0)", parses.status(0), 0);
        Bench.due("status(1)", parses.status(1), 0);
        for (int what : new int[] {-1, 2, 3, Integer.MIN_VALUE, Integer.MAX_VALUE}) Bench.due("status(" + what + ")", parses.status(what), -1);
        Bench.due("status(1) behind others", parses.status(1), 0);
    }

    private static void whatIsCounted() {
        Bench.edge(35, "how many calls were refused: none, one, many of each");
        Bench bench = new Bench();
        PrunedParses parses = bench.parses;
        bench.misses("sign(0)", () -> parses.sign(0));
        bench.refuses("told(10)", () -> parses.told(10));
        for (int k = 0; k < 40; k++) bench.misses("run(1)", () -> parses.run(1));
        for (int k = 0; k < 30; k++) bench.refuses("sort(8, 0)", () -> parses.sort(8, 0));
        Bench.due("status(0)", parses.status(0), 41);
        Bench.due("status(1)", parses.status(1), 31);
        Bench.edge(35, "a call that has wrong what, SORT and all is refused once");
        bench.refuses("sort(8, 9)", () -> parses.sort(8, 9));
        bench.refuses("is(8, -1, -2)", () -> parses.is(8, -1, -2));
        bench.misses("fits(9, 9, 9)", () -> parses.fits(9, 9, 9));
        bench.misses("inside(9, 9, -9)", () -> parses.inside(9, 9, -9));
        bench.refuses("span(0, 0, 0, 9, 9)", () -> parses.span(0, 0, 0, 9, 9));
        Bench.edge(35, "what answers NONE, -1, -20 or a FAULT is not refused");
        Bench other = new Bench();
        for (int k = 0; k < 31; k++) other.parses.feed(0, 0, 0, 0, 0);
        other.parses.undo();
        other.parses.restore();
        for (int k = 0; k < 4; k++) other.parses.image();
        other.parses.status(9);
        other.parses.count(9);
        other.parses.height(0, 0, 0);
        other.parses.node(0, 9, 0);
        other.parses.wrong(0, 9, 0);
        other.parses.grammar(600);
        other.parses.law(0);
        other.feed("?");
        other.parses.work(1);
        for (int k = 0; k < 17; k++) other.parses.work(0);
        Bench.due("status(0)", other.parses.status(0), 0);
        Bench.due("status(1)", other.parses.status(1), 0);
        Bench.edge(35, "no IMAGE keeps it; no GRAMMAR, no undo() changes it");
        bench.parses.image();
        bench.misses("sign(0)", () -> parses.sign(0));
        int missed = parses.status(0);
        int refused = parses.status(1);
        bench.parses.restore();
        bench.work("type 0 'a';");
        bench.parses.undo();
        bench.grammar("rule 0;");
        Bench.due("status(0)", parses.status(0), missed);
        Bench.due("status(1)", parses.status(1), refused);
    }

    private static void counts() {
        Bench.edge(36, "NONE for others");
        Bench bench = new Bench();
        PrunedParses parses = bench.parses;
        for (int what = 0; what < 3; what++) Bench.due("count(" + what + ")", parses.count(what), 0);
        for (int what : new int[] {-1, 3, 4, Integer.MIN_VALUE, Integer.MAX_VALUE}) Bench.due("count(" + what + ")", parses.count(what), -1);
        Bench.due("status(1)", parses.status(1), 0);
        Bench.edge(36, "0 IMAGES: none to 3");
        for (int k = 1; k <= 4; k++) {
            parses.image();
            Bench.due("count(0)", parses.count(0), Math.min(k, 3));
        }
        for (int left = 2; left >= -1; left--) {
            parses.restore();
            Bench.due("count(0)", parses.count(0), Math.max(left, 0));
        }
        Bench.edge(36, "1 bytes of the TAPE: none to 600");
        for (int k = 1; k <= 31; k++) {
            parses.feed(0, 0, 0, 0, 0);
            Bench.due("count(1)", parses.count(1), Math.min(20 * k, 600));
        }
        parses.grammar(0);
        Bench.due("count(1) behind grammar(0)", parses.count(1), 0);
        Bench.edge(36, "2 WORKS that can be undone: none to 16");
        for (int k = 1; k <= 17; k++) {
            parses.work(0);
            Bench.due("count(2)", parses.count(2), Math.min(k, 16));
        }
        for (int left = 15; left >= -1; left--) {
            parses.undo();
            Bench.due("count(2)", parses.count(2), Math.max(left, 0));
        }
    }
}
