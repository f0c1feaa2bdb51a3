import java.util.NoSuchElementException;

/**
 * Calls that are refused, or that answer that they can't be done: of two objects that are alike one makes such a call,
 * and behind it both still answer alike whatever is asked, but for what the document says of that call.
 */
public final class RefusedCallsTest {
    interface Refused {
        void make(PrunedParses parses);
    }

    private static final int LEAST = Integer.MIN_VALUE;
    private static final int GREATEST = Integer.MAX_VALUE;
    private static final int[] NO_SORT = {-1, 8, LEAST, GREATEST};
    /** Those that every object here bears: no such CLASS, PRODUCTION, QUOTE, place of the TEXT "<a!>>b". */
    private static final int[] NONE_SUCH = {-1, 6, LEAST, GREATEST};

    public static void main(String[] args) {
        texts();
        fullTapeAndWorks();
        aboutTheGrammar();
        aboutPieces();
        aboutTrees();
        aboutQuotes();
        years();
        nothingThere();
        Bench.closeEdges("RefusedCallsTest", 2, 36);
    }

    /** A GRAMMAR, a LAW, a TEXT, a REFUSED STEP, two IMAGES, bytes on the TAPE, a FAULT, refused calls. */
    private static PrunedParses worked() {
        Bench bench = new Bench();
        bench.grammar("class [a-c];class [\\ ];lay #1;token 0 #0;token 1 @0;quote 2 3 '<>!';token 3 'a>';rule 4 @2 @0;not 4 #0;drop 1 5;token 5 'b';");
        bench.law("high*10+sort");
        bench.work("type 0 '<a!>>b';");
        bench.parses.image();
        bench.work("swap 0 5;swap 0 5;cut 9 9;");
        bench.parses.image();
        bench.work("");
        return withFault(bench);
    }

    private static PrunedParses withFault(Bench bench) {
        bench.workFault("cut 0 1;cut 0 1;cut", 1, 19, 2);
        bench.misses("sign(9)", () -> bench.parses.sign(9));
        bench.refuses("told(10)", () -> bench.parses.told(10));
        bench.feed("rule 0;rule 1 'x';");
        return bench.parses;
    }

    /** 16 WORKS, 3 IMAGES, a full TAPE, a TEXT of 24 SIGNS. */
    private static PrunedParses full() {
        Bench bench = new Bench();
        bench.grammar("class ~[];token 0;token 0 @0 #0;");
        for (int k = 0; k < 16; k++) bench.work(k < 3 ? "type 0 'abcdefgh';cut 9 20;" : "swap 0 " + k + ";cut 9 20;");
        for (int k = 0; k < 3; k++) bench.parses.image();
        bench.lawFault("1+", 1, 2);
        for (int k = 0; k < 30; k++) bench.parses.feed(0x20202020, 0x20202020, 0x20202020, 0x20202020, k == 0 ? 0x2020203f : 0x20202020);
        return bench.parses;
    }

    /** Refused is the exception that is due: 0 NoSuchElementException, 1 IllegalArgumentException, -1 none. */
    private static void changesNothing(String what, PrunedParses parses, PrunedParses twin, int refused, Refused call) {
        int[] status = {parses.status(0), parses.status(1)};
        int thrown = -1;
        try {
            call.make(parses);
        } catch (NoSuchElementException e) {
            thrown = 0;
        } catch (IllegalArgumentException e) {
            thrown = 1;
        }
        Bench.due(what + " throws (0 NoSuchElementException, 1 IllegalArgumentException, -1 nothing)", thrown, refused);
        for (int k = 0; k < 2; k++) Bench.due("status(" + k + ") behind " + what, parses.status(k), refused == k ? status[k] + 1 : status[k]);
        int[] answers = Bench.answers(parses);
        int[] due = Bench.answers(twin);
        for (int k = 0; k < due.length; k++) Bench.due("answer " + k + " behind " + what, answers[k], due[k]);
    }

    private static void refuses(String what, Refused call) {
        changesNothing(what, worked(), worked(), 1, call);
    }

    private static void misses(String what, Refused call) {
        changesNothing(what, worked(), worked(), 0, call);
    }

    private static void texts() {
        int[] tooMany = {-1, 21, LEAST, GREATEST};
        for (int n : tooMany) {
            Bench.edge(3, "a refused call changes nothing else");
            refuses("grammar(" + n + ")", parses -> parses.grammar(n));
            Bench.edge(4, "a refused call changes nothing else");
            refuses("law(" + n + ")", parses -> parses.law(n));
            Bench.edge(5, "a refused call changes nothing else");
            refuses("work(" + n + ")", parses -> parses.work(n));
        }
    }

    private static void fullTapeAndWorks() {
        Bench.edge(2, "doing nothing, if there would be more than 600");
        changesNothing("feed of a full TAPE", full(), full(), -1, parses -> parses.feed(-1, -1, -1, -1, -1));
        for (int n : new int[] {151, 600, 601, -1}) {
            Bench.edge(4, "a refused call changes nothing else, of a full TAPE");
            changesNothing("law(" + n + ")", full(), full(), 1, parses -> parses.law(n));
            Bench.edge(5, "a refused call changes nothing else, of a full TAPE and 16 WORKS");
            changesNothing("work(" + n + ")", full(), full(), 1, parses -> parses.work(n));
        }
        Bench.edge(3, "a refused call changes nothing else, of a full TAPE");
        changesNothing("grammar(601)", full(), full(), 1, parses -> parses.grammar(601));
        Bench.edge(33, "-1 changes nothing else");
        changesNothing("image() of 3", full(), full(), -1, parses -> parses.image());
    }

    private static void aboutTheGrammar() {
        for (int what : new int[] {-1, 10, LEAST, GREATEST}) {
            Bench.edge(9, "a refused call changes nothing else");
            refuses("told(" + what + ")", parses -> parses.told(what));
        }
        for (int k : NONE_SUCH) {
            Bench.edge(10, "a refused call changes nothing else");
            misses("group(" + k + ", 0)", parses -> parses.group(k, 0));
            misses("group(" + k + ", 9)", parses -> parses.group(k, 9));
            refuses("group(0, what)", parses -> parses.group(0, k));
            Bench.edge(11, "a refused call changes nothing else");
            misses("holds(" + k + ", 40)", parses -> parses.holds(k, 40));
            misses("holds(" + k + ", 0)", parses -> parses.holds(k, 0));
            refuses("holds(0, sign)", parses -> parses.holds(0, k));
            Bench.edge(12, "a refused call changes nothing else");
            misses("beside(" + k + ", 0)", parses -> parses.beside(k, 0));
            misses("beside(0, " + k + ")", parses -> parses.beside(0, k));
            Bench.edge(13, "a refused call changes nothing else");
            misses("production(" + k + ", 0)", parses -> parses.production(k, 0));
            misses("production(" + k + ", 9)", parses -> parses.production(k, 9));
            refuses("production(0, what)", parses -> parses.production(0, k));
            Bench.edge(14, "a refused call changes nothing else");
            refuses("sort(0, what)", parses -> parses.sort(0, k));
        }
        for (int sort : NO_SORT) {
            Bench.edge(14, "a refused call changes nothing else");
            refuses("sort(" + sort + ", 0)", parses -> parses.sort(sort, 0));
            Bench.edge(15, "a refused call changes nothing else");
            refuses("begins(" + sort + ", 40)", parses -> parses.begins(sort, 40));
            refuses("begins(0, " + sort + ")", parses -> parses.begins(0, sort));
        }
    }

    private static void aboutPieces() {
        for (int place : NONE_SUCH) {
            Bench.edge(16, "a refused call changes nothing else");
            misses("sign(" + place + ")", parses -> parses.sign(place));
            Bench.edge(17, "a refused call changes nothing else");
            misses("run behind " + place, parses -> parses.run(place == 6 ? 7 : place));
            Bench.edge(19, "a refused call changes nothing else");
            refuses("ends(0, " + place + ")", parses -> parses.ends(0, place == 6 ? 7 : place));
        }
        int[][] pieces = {{-1, 0, 0}, {8, 0, 0}, {LEAST, 0, 0}, {GREATEST, 0, 0}, {0, -1, 0}, {0, 0, -1}, {0, 0, 7}, {0, 7, 7}, {0, 2, 1},
            {0, LEAST, 0}, {0, GREATEST, GREATEST}, {0, 0, GREATEST}, {0, 0, LEAST}};
        for (int[] row : pieces) {
            String name = "(" + row[0] + ", " + row[1] + ", " + row[2] + ")";
            Bench.edge(18, "a refused call changes nothing else");
            refuses("is" + name, parses -> parses.is(row[0], row[1], row[2]));
            Bench.edge(20, "a refused call changes nothing else");
            refuses("ways" + name, parses -> parses.ways(row[0], row[1], row[2]));
            Bench.edge(21, "a refused call changes nothing else");
            refuses("height" + name, parses -> parses.height(row[0], row[1], row[2]));
            Bench.edge(22, "a refused call changes nothing else");
            refuses("nodes" + name, parses -> parses.nodes(row[0], row[1], row[2]));
        }
        for (int sort : NO_SORT) {
            Bench.edge(19, "a refused call changes nothing else");
            refuses("ends(" + sort + ", 0)", parses -> parses.ends(sort, 0));
        }
    }

    private static void aboutTrees() {
        int[][] bad = {{-1, 0, 0}, {8, 0, 0}, {0, -1, 0}, {0, LEAST, 0}, {0, 0, -1}, {0, 0, 6}, {4, GREATEST, 6}, {LEAST, LEAST, LEAST}};
        for (int[] row : bad) {
            String name = "(" + row[0] + ", " + row[1] + ", " + row[2] + ")";
            Bench.edge(23, "a refused call changes nothing else");
            refuses("node" + name, parses -> parses.node(row[0], row[1], row[2]));
            Bench.edge(26, "a refused call changes nothing else");
            refuses("wrong" + name, parses -> parses.wrong(row[0], row[1], row[2]));
        }
        for (int sort : NO_SORT) {
            Bench.edge(24, "a refused call changes nothing else");
            refuses("worth(" + sort + ")", parses -> parses.worth(sort));
            Bench.edge(25, "a refused call changes nothing else");
            refuses("pieces(" + sort + ")", parses -> parses.pieces(sort));
            Bench.edge(30, "a refused call changes nothing else");
            refuses("commonest(" + sort + ")", parses -> parses.commonest(sort));
        }
    }

    private static void aboutQuotes() {
        for (int k : NONE_SUCH) {
            Bench.edge(27, "a refused call changes nothing else");
            misses("body(" + k + ", 0)", parses -> parses.body(k, 0));
            misses("body(0, " + k + ")", parses -> parses.body(0, k));
            Bench.edge(28, "a refused call changes nothing else");
            misses("inside(" + k + ", 0, 0)", parses -> parses.inside(k, 0, 0));
            misses("inside(0, " + k + ", -1)", parses -> parses.inside(0, k, -1));
            Bench.edge(29, "a refused call changes nothing else");
            misses("fits(0, " + k + ", 0)", parses -> parses.fits(0, k, 0));
            misses("fits(9, " + k + ", 9)", parses -> parses.fits(9, k, 9));
            refuses("fits(0, 0, what)", parses -> parses.fits(0, 0, k));
        }
        for (int sort : NO_SORT) {
            Bench.edge(29, "a refused call changes nothing else");
            refuses("fits(" + sort + ", 0, 0)", parses -> parses.fits(sort, 0, 0));
        }
        for (int k : new int[] {-1, LEAST}) {
            Bench.edge(28, "a refused call changes nothing else");
            refuses("inside(0, 0, " + k + ")", parses -> parses.inside(0, 0, k));
        }
    }

    private static void years() {
        for (int n : new int[] {0, 25, -1, LEAST, GREATEST}) {
            Bench.edge(31, "a refused call changes nothing else");
            refuses("year(1, " + n + ", 0)", parses -> parses.year(1, n, 0));
            refuses("year(1, 1, what)", parses -> parses.year(1, 1, n == 0 ? 4 : n));
            Bench.edge(32, "a refused call changes nothing else");
            refuses("span(1, " + n + ", 1, 0, 0)", parses -> parses.span(1, n, 1, 0, 0));
            refuses("span(1, 1, " + n + ", 0, 0)", parses -> parses.span(1, 1, n, 0, 0));
            refuses("span(1, 1, 1, what, 0)", parses -> parses.span(1, 1, 1, n == 0 ? 3 : n, 0));
            refuses("span(1, 1, 1, 0, SORT)", parses -> parses.span(1, 1, 1, 0, n == 0 ? 8 : n));
        }
    }

    private static void nothingThere() {
        Bench.edge(8, "-1 changes nothing");
        changesNothing("undo() of none", bare(), bare(), -1, parses -> parses.undo());
        Bench.edge(34, "-1 changes nothing");
        changesNothing("restore() of none", bare(), bare(), -1, parses -> parses.restore());
        for (int what : new int[] {-1, 2, 3, LEAST, GREATEST}) {
            Bench.edge(35, "NONE for others changes nothing");
            changesNothing("status(" + what + ")", worked(), worked(), -1, parses -> parses.status(what));
            Bench.edge(36, "NONE for others changes nothing");
            changesNothing("count(" + what + ")", worked(), worked(), -1, parses -> parses.count(what == 2 ? 4 : what));
        }
        Bench.edge(6, "asked, it changes nothing");
        changesNothing("fault()", worked(), worked(), -1, parses -> parses.fault());
        Bench.edge(7, "asked, it changes nothing");
        changesNothing("faulted()", worked(), worked(), -1, parses -> parses.faulted());
    }

    /** No WORK that can be undone, no IMAGE; the FAULT of a LAW, STEPS REFUSED by none. */
    private static PrunedParses bare() {
        Bench bench = new Bench();
        bench.grammar("token 0;token 1 'a';");
        bench.work("type 0 'b';cut 9 9;");
        bench.parses.undo();
        bench.lawFault("1+", 1, 2);
        bench.feed("rule 0;x");
        return bench.parses;
    }
}
