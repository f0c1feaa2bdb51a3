import java.util.Random;

/**
 * Promises 14 to 30: grammars of many productions, drops, nots and quotes over few signs, so that most pieces are of
 * some sort, by many ways, in many layers; all that can be asked of their texts is held against the model.
 * Two numbers as arguments are the first seed and how many; without, a few that take some seconds.
 */
public final class DenseRunsTest {
    private static final int MOST_CALLS = 512;
    private static final String[] QUOTES = {"'<>!'", "'<>!'", "'<<!'", "'ab!'", "'aab'", "'<a,'", "'!><'", "',>!'"};
    private static final String[] CLASSES = {"[a]", "[b]", "[ab]", "[,]", "[, ]", "~[a]", "[]", "[<>!]", "~[<->]-[!]", "~[]"};
    private static final String[] LAWS = {"1", "sort*64+from*8+to", "most[high,ways]*(deep+1)", "(to-from)*97%(ways+1)-high*deep",
        "least[sort,deep]-from/(high-2)"};

    private final Random random;
    private final Bench bench = new Bench();
    private final Model model = new Model();
    private final String name;
    private int calls;
    private int sorts;
    private int classes;
    private int[] levels;
    private int length;

    private DenseRunsTest(int seed) {
        random = new Random(seed);
        name = "seed " + seed + ": ";
    }

    public static void main(String[] args) {
        int first = args.length == 2 ? Integer.parseInt(args[0]) : 1;
        int many = args.length == 2 ? Integer.parseInt(args[1]) : 120;
        for (int seed = first; seed < first + many; seed++) new DenseRunsTest(seed).make();
        Bench.close("DenseRunsTest");
    }

    private void make() {
        String grammar = grammar();
        if (tell("grammar", grammar) < 0) return;
        askSorts();
        for (int texts = 0; texts < 2 && calls < MOST_CALLS - 260; texts++) {
            tell("law", LAWS[random.nextInt(LAWS.length)]);
            tell("work", work());
            askPieces();
            askTrees();
            askWrongs();
        }
    }

    /** In so many of a hundred times. */
    private boolean chance(int percent) {
        return random.nextInt(100) < percent;
    }

    private void due(String what, int got, int want) {
        calls++;
        Bench.due(name + what, got, want);
    }

    /** Brings a text to both; the answer. */
    private int tell(String what, String text) {
        for (int from = 0; from < text.length(); from += 20) {
            int[] five = new int[5];
            for (int k = 0; k < 20; k++) five[k / 4] = five[k / 4] << 8 | (from + k < text.length() ? text.charAt(from + k) : 0);
            due("feed", bench.parses.feed(five[0], five[1], five[2], five[3], five[4]), model.feed(five[0], five[1], five[2], five[3], five[4]));
        }
        int n = text.length();
        int due = what.equals("grammar") ? model.grammar(n) : what.equals("law") ? model.law(n) : model.work(n);
        int got = what.equals("grammar") ? bench.parses.grammar(n) : what.equals("law") ? bench.parses.law(n) : bench.parses.work(n);
        due(what + " " + text, got, due);
        due("fault() of " + text, bench.parses.fault(), model.fault());
        due("faulted() of " + text, bench.parses.faulted(), model.faulted());
        return due;
    }

    /** A sort uses those of its level and of those below it, and drops from these: so it mostly has no FAULT 4. */
    private String grammar() {
        sorts = 2 + random.nextInt(7);
        levels = new int[sorts];
        int most = 1 + random.nextInt(chance(50) ? 2 : 8);
        for (int sort = 0; sort < sorts; sort++) levels[sort] = random.nextInt(most);
        classes = 1 + random.nextInt(4);
        StringBuilder text = new StringBuilder();
        for (int k = 0; k < classes; k++) text.append("class ").append(CLASSES[random.nextInt(CLASSES.length)]).append(';');
        int productions = 4 + random.nextInt(15);
        for (int p = 0; p < productions && text.length() < 450; p++) {
            int sort = p < sorts ? p : random.nextInt(sorts);
            text.append(chance(50) ? "rule" : "token").append(sort);
            int parts = random.nextInt(chance(30) ? 5 : 3);
            for (int k = 0; k < parts; k++) text.append(part(sort));
            text.append(';');
        }
        for (int k = random.nextInt(4); k > 0; k--) {
            if (chance(50)) text.append("quote").append(random.nextInt(sorts)).append(' ').append(below(7)).append(QUOTES[random.nextInt(QUOTES.length)]).append(';');
            if (chance(60)) text.append("not").append(random.nextInt(sorts)).append('#').append(random.nextInt(classes)).append(';');
        }
        for (int k = random.nextInt(9); k > 0; k--) {
            int sort = random.nextInt(sorts);
            int other = random.nextInt(sorts);
            if (levels[other] < levels[sort] || chance(1)) text.append("drop").append(sort).append(' ').append(other).append(';');
        }
        if (chance(60)) text.append("lay#").append(random.nextInt(classes)).append(';');
        return text.toString();
    }

    private String part(int sort) {
        int kind = random.nextInt(100);
        if (kind < 55) return "@" + below(levels[sort]);
        if (kind < 80) return "#" + random.nextInt(classes);
        return chance(60) ? "'a'" : chance(50) ? "'b'" : chance(50) ? "','" : "'ab'";
    }

    /** A sort of this level or of one below. */
    private int below(int level) {
        int sort = random.nextInt(sorts);
        for (int tries = 0; tries < 30 && levels[sort] > level; tries++) sort = random.nextInt(sorts);
        return sort;
    }

    private String work() {
        StringBuilder text = new StringBuilder();
        if (length > 0) text.append("cut 0 ").append(length).append(';');
        length = random.nextInt(9);
        String signs = chance(40) ? "ab" : chance(50) ? "ab," : "aab<>!,";
        if (length > 0) text.append("type 0'");
        for (int k = 0; k < length; k++) text.append(signs.charAt(random.nextInt(signs.length())));
        if (length > 0) text.append("';");
        if (chance(30)) {
            int more = 1 + random.nextInt(3);
            text.append("type 0 '").append("<<<", 0, more).append("';type ").append(length / 2 + more).append("'!a!>>';");
            length += more + 5;
        }
        return text.toString();
    }

    private void askSorts() {
        due("told(6)", bench.parses.told(6), model.told(6));
        for (int sort = 0; sort < sorts; sort++) {
            for (int what = 0; what < 6; what++) due("sort(" + sort + ", " + what + ")", bench.parses.sort(sort, what), model.sort(sort, what));
        }
    }

    private void askPieces() {
        due("told(7)", bench.parses.told(7), model.told(7));
        due("commonest(0)", bench.parses.commonest(0), model.commonest(0));
        due("commonest(1)", bench.parses.commonest(1), model.commonest(1));
        for (int tries = 0; tries < 25; tries++) {
            int sort = random.nextInt(sorts);
            int i = chance(40) ? 0 : random.nextInt(length + 1);
            int ends = model.ends(sort, i);
            due("ends(" + sort + ", " + i + ")", bench.parses.ends(sort, i), ends);
            int j = 31 - Integer.numberOfLeadingZeros(ends);
            if (j > i && chance(50)) j = i + random.nextInt(j - i + 1);
            if (j < 0) continue;
            String piece = "(" + sort + ", " + i + ", " + j + ")";
            due("ways" + piece, bench.parses.ways(sort, i, j), model.ways(sort, i, j));
            due("height" + piece, bench.parses.height(sort, i, j), model.height(sort, i, j));
            due("nodes" + piece, bench.parses.nodes(sort, i, j), model.nodes(sort, i, j));
        }
    }

    private void askTrees() {
        for (int tries = 0; tries < 3; tries++) {
            int sort = random.nextInt(sorts);
            if (model.worth(sort) == 0 && chance(80)) continue;
            due("worth(" + sort + ")", bench.parses.worth(sort), model.worth(sort));
            for (int asked = 0; asked < 10; asked++) {
                int k = random.nextInt(model.nodes(sort, 0, length) + 1);
                int what = random.nextInt(6);
                due("node(" + sort + ", " + k + ", " + what + ")", bench.parses.node(sort, k, what), model.node(sort, k, what));
            }
        }
    }

    private void askWrongs() {
        for (int tries = 0; tries < 6; tries++) {
            int sort = random.nextInt(sorts);
            int k = random.nextInt(4);
            for (int what = 0; what < 3; what++) {
                due("wrong(" + sort + ", " + k + ", " + what + ")", bench.parses.wrong(sort, k, what), model.wrong(sort, k, what));
            }
        }
        if (length == 0 || length > 6) return;
        int sort = random.nextInt(sorts);
        int place = random.nextInt(length);
        due("fits(" + sort + ", " + place + ", 0)", bench.parses.fits(sort, place, 0), model.fits(sort, place, 0));
    }
}
