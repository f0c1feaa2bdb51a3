import java.util.HashSet;
import java.util.NoSuchElementException;
import java.util.Set;

/** What the tests share: texts put on the tape, and answers held against those that are due. */
final class Bench {
    interface Call {
        void make();
    }

    private static int asked;
    private static int wrong;
    /** The boundary case that is being tested, and those there were. */
    private static String edge = "";
    private static final Set<String> edges = new HashSet<>();

    final PrunedParses parses = new PrunedParses();
    /** What type() has made the TEXT last: to name answers by, which costs no call. */
    String typed = "";

    static void due(String what, long got, long want) {
        asked++;
        if (got == want) return;
        wrong++;
        System.out.println(edge + what + " answered " + got + ", due is " + want);
    }

    /** Begins a test of a boundary case that a sentence names; what is wrong from here on is told with it. */
    static void edge(int promise, String sentence) {
        edge = "promise " + promise + ", " + sentence + ": ";
        edges.add(edge);
    }

    /** Like close, but each of these promises must have had a boundary case. */
    static void closeEdges(String name, int first, int last) {
        edge = "";
        StringBuilder counted = new StringBuilder(name + ": boundary cases of promise");
        for (int promise = first; promise <= last; promise++) {
            String start = "promise " + promise + ",";
            long many = edges.stream().filter(edge -> edge.startsWith(start)).count();
            due("boundary cases of promise " + promise + " are tested", many > 0, true);
            counted.append(' ').append(promise).append(" (").append(many).append(')');
        }
        System.out.println(counted);
        close(name);
    }

    static void due(String what, boolean got, boolean want) {
        due(what, got ? 1 : 0, want ? 1 : 0);
    }

    /** Tells how it went, and ends with 1 if an answer was wrong. */
    static void close(String name) {
        System.out.println(name + ": " + asked + " answers, " + wrong + " wrong");
        if (wrong != 0) System.exit(1);
    }

    /** A bench with a grammar that must be without a fault. */
    static Bench with(String grammar) {
        Bench bench = new Bench();
        bench.grammar(grammar);
        due("fault() of " + grammar, bench.parses.fault(), -1);
        return bench;
    }

    void feed(String text) {
        for (int from = 0; from < text.length(); from += 20) {
            int[] numbers = new int[5];
            for (int k = 0; k < 20; k++) {
                int sign = from + k < text.length() ? text.charAt(from + k) : 0;
                numbers[k / 4] = numbers[k / 4] << 8 | sign;
            }
            parses.feed(numbers[0], numbers[1], numbers[2], numbers[3], numbers[4]);
        }
    }

    int grammar(String text) {
        feed(text);
        return parses.grammar(text.length());
    }

    int law(String text) {
        feed(text);
        return parses.law(text.length());
    }

    int work(String text) {
        feed(text);
        return parses.work(text.length());
    }

    /** Makes the TEXT by one WORK. */
    Bench type(String text) {
        typed = text;
        // There may be 16 WORKS: this leaves room for some behind it.
        while (parses.count(2) > 11) parses.undo();
        StringBuilder steps = new StringBuilder();
        if (parses.told(8) > 0) steps.append("cut 0 ").append(parses.told(8)).append(';');
        for (int from = 0; from < text.length(); from += 8) {
            steps.append("type ").append(from).append(" '");
            for (int k = from; k < Math.min(text.length(), from + 8); k++) {
                char sign = text.charAt(k);
                if (sign == '\'' || sign == '\\') steps.append('\\');
                steps.append(sign);
            }
            steps.append("';");
        }
        work(steps.toString());
        due("told(8) behind typing " + text, parses.told(8), text.length());
        return this;
    }

    String text() {
        StringBuilder text = new StringBuilder();
        for (int place = 0; place < parses.told(8); place++) text.append((char) parses.sign(place));
        return text.toString();
    }

    void textIs(String due) {
        String text = text();
        due("the TEXT " + text + " is " + due, text.equals(due), true);
    }

    /** One WORK: how many STEPS it does, how many are refused, and the TEXT behind it. */
    void step(String steps, int done, int refused, String due) {
        due("work " + steps, work(steps), done);
        due("told(9) behind " + steps, parses.told(9), refused);
        textIs(due);
    }

    static String times(String text, int many) {
        StringBuilder all = new StringBuilder();
        for (int k = 0; k < many; k++) all.append(text);
        return all.toString();
    }

    /** All that can be asked of an object, in few calls; what takes something from it comes last. */
    static int[] answers(PrunedParses parses) {
        int[] all = new int[500];
        int many = 0;
        for (int what = 0; what < 10; what++) all[many++] = parses.told(what);
        for (int what = 0; what < 3; what++) all[many++] = parses.count(what);
        all[many++] = parses.fault();
        all[many++] = parses.faulted();
        int length = parses.told(8);
        for (int place = 0; place < length; place++) all[many++] = parses.sign(place);
        for (int sort = 0; sort < 8; sort++) {
            for (int i = 0; i <= length; i += 3) all[many++] = parses.ends(sort, i);
            all[many++] = parses.height(sort, 0, length);
            all[many++] = parses.nodes(sort, 0, length);
            all[many++] = parses.worth(sort);
            all[many++] = parses.wrong(sort, 0, 0);
            for (int what = 0; what < 6; what++) all[many++] = parses.sort(sort, what);
        }
        for (int k = 0; k < all[0]; k++) all[many++] = parses.group(k, 0);
        for (int k = 0; k < all[1]; k++) all[many++] = parses.production(k, 2);
        for (int what = 0; what < 3 && length > 0; what++) all[many++] = parses.fits(0, 0, what);
        all[many++] = parses.year(7, 24, 1);
        all[many++] = parses.run(length);
        all[many++] = parses.image();
        while (parses.undo() >= 0) all[many++] = parses.told(8);
        while (parses.restore() >= 0) {
            all[many++] = parses.told(7);
            all[many++] = parses.count(2);
            all[many++] = parses.undo();
            all[many++] = parses.told(8);
        }
        all[many++] = parses.grammar(parses.count(1));
        all[many++] = parses.fault();
        return all;
    }

    /** A GRAMMAR that is without a FAULT, in an object of its own. */
    static void good(String text, int productions) {
        Bench bench = new Bench();
        due("grammar " + text, bench.grammar(text), productions);
        due("fault() of grammar " + text, bench.parses.fault(), -1);
        due("faulted() of grammar " + text, bench.parses.faulted(), -1);
    }

    /** A GRAMMAR with a FAULT, in an object of its own. */
    static void bad(String text, int kind, int place, int clause) {
        new Bench().grammarFault(text, kind, place, clause);
    }

    void grammarFault(String text, int kind, int place, int clause) {
        fault("grammar " + text, grammar(text), kind, place, clause);
    }

    void lawFault(String text, int kind, int place) {
        fault("law " + text, law(text), kind, place, -1);
    }

    void workFault(String text, int kind, int place, int step) {
        fault("work " + text, work(text), kind, place, step);
    }

    private void fault(String what, int answer, int kind, int place, int faulted) {
        due(what, answer, kind - 10);
        due("fault() of " + what, parses.fault(), place);
        due("faulted() of " + what, parses.faulted(), faulted);
        due("count(1) behind " + what, parses.count(1), 0);
    }

    /** The call must be refused as one with a wrong argument, and be counted so. */
    void refuses(String what, Call call) {
        refused(what, call, false);
    }

    /** The call must be refused as one that asks for what there is not, and be counted so. */
    void misses(String what, Call call) {
        refused(what, call, true);
    }

    private void refused(String what, Call call, boolean missing) {
        int before = parses.status(0);
        int argumentsBefore = parses.status(1);
        String thrown = "nothing";
        try {
            call.make();
        } catch (NoSuchElementException | IllegalArgumentException e) {
            thrown = e.getClass().getSimpleName();
        }
        String want = missing ? "NoSuchElementException" : "IllegalArgumentException";
        due(what + " throws " + want + " (it threw " + thrown + ")", thrown.equals(want), true);
        due("status(0) behind " + what, parses.status(0), missing ? before + 1 : before);
        due("status(1) behind " + what, parses.status(1), missing ? argumentsBefore : argumentsBefore + 1);
    }
}
