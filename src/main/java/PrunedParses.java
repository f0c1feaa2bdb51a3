import java.util.Arrays;
import java.util.NoSuchElementException;

/** A scannerless language front end; ../shared/DOC.md says what each call answers. */
public final class PrunedParses {
    public static final int NONE = -1;

    private static final int FIRST_SIGN = 32;
    private static final int LAST_SIGN = 126;
    private static final int SIGNS = 95;
    private static final int SORTS = 8;
    private static final int CLASSES = 8;
    private static final int CLAUSES = 60;
    private static final int PRODUCTIONS = 20;
    private static final int PARTS = 4;
    private static final int WORD = 8;
    private static final int QUOTES = 4;
    private static final int NOTS = 8;
    private static final int DROPS = 8;
    private static final int OPENS = 6;
    private static final int LONGEST = 24;
    private static final int PLACES = 25;
    private static final int TAPE = 600;
    private static final int FED = 20;
    private static final int SHORT_TEXT = 150;
    private static final int WORKS = 16;
    private static final int IMAGES = 3;
    /** The TEXT, its bodies, those within one other, and those within two. */
    private static final int LEVELS = 4;
    private static final int NODES = 200;
    private static final int GREATEST = 0x7fffffff;

    private final Reader reader = new Reader();
    private final GrammarReader grammarReader = new GrammarReader();
    private Rules rules = new Rules();
    private Rules spareRules = new Rules();
    private Law law = new Law();
    private Law spareLaw = new Law();
    private final Steps steps = new Steps();
    private final Shelf shelf = new Shelf();
    private final Shelf[] images = new Shelf[IMAGES];
    private int imageCount;
    private final Finder finder = new Finder();
    private final Table text = new Table();
    /** Whether text tells the PIECES of the TEXT as it stands. */
    private boolean known;
    /** Texts that are only tried are put here, so that the TEXT and its PIECES stay. */
    private final Table trial = new Table();
    private final Tree tree = new Tree(finder, text);
    private int faultClause = NONE;
    private int refusedSteps;
    private int draws;
    private int missingRefusals;
    private int argumentRefusals;

    public PrunedParses() {
        for (int k = 0; k < IMAGES; k++) images[k] = new Shelf();
        finder.take(rules);
    }

    public int feed(int a, int b, int c, int d, int e) {
        if (reader.filled + FED > TAPE) return NONE;
        reader.put(a);
        reader.put(b);
        reader.put(c);
        reader.put(d);
        reader.put(e);
        return reader.filled;
    }

    public int grammar(int n) throws IllegalArgumentException {
        needWithin(n, 0, reader.filled);
        reader.start(n);
        boolean good = grammarReader.readAll(reader, spareRules);
        faultClause = good ? NONE : grammarReader.clause;
        if (!good) return reader.faultKind - 10;
        Rules former = rules;
        rules = spareRules;
        spareRules = former;
        finder.take(rules);
        law.clear();
        imageCount = 0;
        shelf.count = 0;
        text.length = 0;
        textChanged(0);
        return rules.productionCount;
    }

    public int law(int n) throws IllegalArgumentException {
        needWithin(n, 0, Math.min(reader.filled, SHORT_TEXT));
        reader.start(n);
        faultClause = NONE;
        if (!spareLaw.readAll(reader)) return reader.faultKind - 10;
        Law former = law;
        law = spareLaw;
        spareLaw = former;
        return 1;
    }

    public int work(int n) throws IllegalArgumentException {
        needWithin(n, 0, Math.min(reader.filled, SHORT_TEXT));
        boolean full = shelf.count >= WORKS;
        reader.start(full ? 0 : n);
        faultClause = NONE;
        if (full) return -20;
        if (!steps.readAll(reader)) {
            faultClause = steps.outermost;
            return reader.faultKind - 10;
        }
        shelf.keep(text);
        steps.perform(text);
        textChanged(steps.refused);
        return steps.done;
    }

    public int fault() {
        return reader.faultPlace;
    }

    public int faulted() {
        return faultClause;
    }

    public int undo() {
        if (shelf.count == 0) return NONE;
        shelf.giveBack(text);
        textChanged(0);
        return shelf.count;
    }

    public int told(int what) throws IllegalArgumentException {
        needWithin(what, 0, 9);
        switch (what) {
            case 0: return rules.classCount;
            case 1: return rules.productionCount;
            case 2: return rules.quoteCount;
            case 3: return rules.notCount;
            case 4: return rules.dropCount;
            case 5: return rules.lay;
            case 6: return rules.sorts.topLayer;
            case 7: look(); return text.whole();
            case 8: return text.length;
            default: return refusedSteps;
        }
    }

    public int group(int k, int what) throws NoSuchElementException, IllegalArgumentException {
        needOne(k, rules.classCount);
        needWithin(what, 0, 3);
        Signs signs = rules.classes[k];
        switch (what) {
            case 0: return signs.size();
            case 1: return signs.least();
            case 2: return signs.greatest();
            default: return signs.stretches();
        }
    }

    public boolean holds(int k, int sign) throws NoSuchElementException, IllegalArgumentException {
        needOne(k, rules.classCount);
        needWithin(sign, FIRST_SIGN, LAST_SIGN);
        return rules.classes[k].has(sign);
    }

    public int beside(int k, int other) throws NoSuchElementException {
        needOne(k, rules.classCount);
        needOne(other, rules.classCount);
        Signs first = rules.classes[k];
        Signs second = rules.classes[other];
        if (first.like(second)) return 1;
        if (!first.meets(second)) return 0;
        if (first.within(second)) return 2;
        return second.within(first) ? 3 : 4;
    }

    public int production(int k, int what) throws NoSuchElementException, IllegalArgumentException {
        needOne(k, rules.productionCount);
        needWithin(what, 0, 2);
        switch (what) {
            case 0: return rules.productionSort[k];
            case 1: return rules.isRule[k] ? 1 : 0;
            default: return rules.partCount[k];
        }
    }

    public int sort(int sort, int what) throws IllegalArgumentException {
        needSort(sort);
        needWithin(what, 0, 5);
        Sorts sorts = rules.sorts;
        switch (what) {
            case 0: return sorts.layer[sort];
            case 1: return sorts.empty >>> sort & 1;
            case 2: return sorts.begins[sort].size();
            case 3: return sorts.begins[sort].least();
            case 4: return sorts.uses[sort];
            default: return sorts.needs[sort];
        }
    }

    public boolean begins(int sort, int sign) throws IllegalArgumentException {
        needSort(sort);
        needWithin(sign, FIRST_SIGN, LAST_SIGN);
        return rules.sorts.begins[sort].has(sign);
    }

    public int sign(int place) throws NoSuchElementException {
        needOne(place, text.length);
        return text.signs[place];
    }

    public int run(int place) throws NoSuchElementException {
        needOne(place, text.length + 1);
        look();
        return text.runs[place];
    }

    public boolean is(int sort, int i, int j) throws IllegalArgumentException {
        needPiece(sort, i, j);
        look();
        return text.isOf(sort, i, j);
    }

    public int ends(int sort, int i) throws IllegalArgumentException {
        needSort(sort);
        needWithin(i, 0, text.length);
        look();
        return text.found[sort * PLACES + i];
    }

    public int ways(int sort, int i, int j) throws IllegalArgumentException {
        needPiece(sort, i, j);
        look();
        return tree.waysOf(sort, i, j);
    }

    public int height(int sort, int i, int j) throws IllegalArgumentException {
        needPiece(sort, i, j);
        look();
        return tree.heightOf(sort, i, j);
    }

    public int nodes(int sort, int i, int j) throws IllegalArgumentException {
        needPiece(sort, i, j);
        look();
        return tree.grow(sort, i, j);
    }

    public int node(int sort, int k, int what) throws IllegalArgumentException {
        needSort(sort);
        needWithin(k, 0, GREATEST);
        needWithin(what, 0, 5);
        look();
        if (k >= tree.grow(sort, 0, text.length)) return NONE;
        return tree.fact(k, what);
    }

    public int worth(int sort) throws IllegalArgumentException {
        needSort(sort);
        look();
        return tree.sumOf(law, tree.grow(sort, 0, text.length));
    }

    public int pieces(int sort) throws IllegalArgumentException {
        needSort(sort);
        look();
        return text.piecesOf(sort);
    }

    public int wrong(int sort, int k, int what) throws IllegalArgumentException {
        needSort(sort);
        needWithin(k, 0, GREATEST);
        needWithin(what, 0, 2);
        look();
        if (k >= finder.explain(text, sort)) return NONE;
        return finder.reasons[k * 3 + what];
    }

    public int body(int quote, int place) throws NoSuchElementException {
        needOne(quote, rules.quoteCount);
        needOne(place, text.length);
        return text.copyBody(rules, quote, place, trial) == NONE ? NONE : trial.length;
    }

    public int inside(int quote, int place, int k) throws NoSuchElementException, IllegalArgumentException {
        needOne(quote, rules.quoteCount);
        needOne(place, text.length);
        needWithin(k, 0, GREATEST);
        if (text.copyBody(rules, quote, place, trial) == NONE) return NONE;
        return k < trial.length ? trial.signs[k] : NONE;
    }

    public int fits(int sort, int place, int what) throws NoSuchElementException, IllegalArgumentException {
        needOne(place, text.length);
        needSort(sort);
        needWithin(what, 0, 2);
        Signs fitting = finder.fittingSigns(text, trial, sort, place);
        int many = fitting.size();
        if (what == 0) return many;
        if (many == 0) return NONE;
        return what == 1 ? fitting.least() : rules.firstClassLike(fitting);
    }

    public int commonest(int what) throws IllegalArgumentException {
        needWithin(what, 0, 1);
        look();
        int best = 0;
        for (int sort = 1; sort < SORTS; sort++) {
            if (text.piecesOf(sort) > text.piecesOf(best)) best = sort;
        }
        return what == 0 ? best : text.piecesOf(best);
    }

    public int year(int seed, int n, int what) throws IllegalArgumentException {
        needWithin(n, 1, LONGEST);
        needWithin(what, 0, 3);
        int counted = passYear(seed, n, what == 3);
        switch (what) {
            case 0: return trial.length;
            case 1: return lookAtTrial();
            default: return counted;
        }
    }

    public int span(int seed, int many, int n, int what, int sort) throws IllegalArgumentException {
        needWithin(many, 1, 4);
        needWithin(n, 1, LONGEST);
        needWithin(what, 0, 2);
        needSort(sort);
        int least = LONGEST;
        int greatest = 0;
        int fitting = 0;
        for (int k = 0; k < many; k++) {
            passYear(seed + k, n, false);
            least = Math.min(least, trial.length);
            greatest = Math.max(greatest, trial.length);
            if (what == 2) fitting += lookAtTrial() >>> sort & 1;
        }
        if (what == 2) return fitting;
        return what == 0 ? least : greatest;
    }

    public int image() {
        if (imageCount >= IMAGES) return NONE;
        images[imageCount].copyFrom(shelf);
        images[imageCount].keep(text);
        imageCount++;
        return imageCount;
    }

    public int restore() {
        if (imageCount == 0) return NONE;
        imageCount--;
        shelf.copyFrom(images[imageCount]);
        shelf.giveBack(text);
        textChanged(0);
        return imageCount;
    }

    public int status(int what) {
        if (what == 0) return missingRefusals;
        return what == 1 ? argumentRefusals : NONE;
    }

    public int count(int what) {
        switch (what) {
            case 0: return imageCount;
            case 1: return reader.filled;
            case 2: return shelf.count;
            default: return NONE;
        }
    }

    private void needOne(int k, int many) {
        if (k >= 0 && k < many) return;
        missingRefusals++;
        throw new NoSuchElementException("there is none such");
    }

    private void needWithin(int value, int least, int most) {
        if (value >= least && value <= most) return;
        argumentRefusals++;
        throw new IllegalArgumentException("out of its range");
    }

    private void needSort(int sort) {
        needWithin(sort, 0, SORTS - 1);
    }

    private void needPiece(int sort, int i, int j) {
        needSort(sort);
        needWithin(j, 0, text.length);
        needWithin(i, 0, j);
    }

    private void textChanged(int refusedNow) {
        refusedSteps = refusedNow;
        known = false;
    }

    /** Finds the PIECES of the TEXT, once behind each change. */
    private void look() {
        if (known) return;
        finder.fill(text, 0, text.length);
        tree.forget();
        known = true;
    }

    /** The SORTS (bits) that trial as a whole is OF. */
    private int lookAtTrial() {
        finder.fill(trial, 0, trial.length);
        return trial.whole();
    }

    /** DRAW by most. */
    private int drawBy(int most) {
        draws = draws * 1103515245 + 12345;
        return most < 1 ? 0 : (draws >>> 16 & 0x7fff) % most;
    }

    /** Does the edits of a YEAR in trial: how many were REFUSED, or behind how many trial was OF SORT 0. */
    private int passYear(int seed, int n, boolean countsSort) {
        trial.copyText(text);
        draws = seed;
        int refused = 0;
        int fitting = 0;
        for (int time = 0; time < n; time++) {
            if (!editTrial(drawBy(4))) refused++;
            if (!countsSort) continue;
            finder.fill(trial, 0, trial.length);
            if (trial.isOf(0, 0, trial.length)) fitting++;
        }
        return countsSort ? fitting : refused;
    }

    private boolean editTrial(int kind) {
        if (kind == 3) {
            int first = drawBy(LONGEST);
            return trial.swapSigns(first, drawBy(LONGEST));
        }
        int place = drawBy(trial.length + 1);
        if (kind == 2) return trial.cutSigns(place, 1);
        return trial.typeSign(place, FIRST_SIGN + drawBy(SIGNS));
    }

    private static boolean isSign(int sign) {
        return sign >= FIRST_SIGN && sign <= LAST_SIGN;
    }

    private static boolean isDigit(int sign) {
        return sign >= '0' && sign <= '9';
    }

    private static boolean isLetter(int sign) {
        return sign >= 'a' && sign <= 'z';
    }

    /** The TAPE, the text that is read from it, and the first FAULT in this. */
    private static final class Reader {
        private final int[] bytes = new int[TAPE];
        private int filled;
        private int length;
        private int at;
        private int opens;
        private int faultKind;
        private int faultPlace = NONE;
        private int nameFrom;
        private int numberFrom;
        private int wordFrom;

        private void put(int number) {
            for (int shift = 24; shift >= 0 && filled < TAPE; shift -= 8) {
                bytes[filled] = number >>> shift & 255;
                filled++;
            }
        }

        private void start(int n) {
            length = n;
            filled = 0;
            at = 0;
            opens = 0;
            faultKind = 0;
            faultPlace = NONE;
        }

        /** Always false, so that what is being read can answer with it. */
        private boolean fail(int kind, int place) {
            if (faultKind == 0) {
                faultKind = kind;
                faultPlace = place;
            }
            return false;
        }

        /** The byte at this place, NONE behind the last one. */
        private int here() {
            return at >= 0 && at < length && at < TAPE ? bytes[at] : NONE;
        }

        private int hereBehindBlanks() {
            for (; at >= 0 && at < length && at < TAPE; at++) {
                if (bytes[at] != ' ') return bytes[at];
            }
            return NONE;
        }

        private boolean take(int sign) {
            if (hereBehindBlanks() != sign) return fail(1, at);
            at++;
            return true;
        }

        private boolean takeEnd() {
            return hereBehindBlanks() == NONE || fail(1, at);
        }

        private int takeNumber(int most) {
            if (!isDigit(hereBehindBlanks())) {
                fail(1, at);
                return NONE;
            }
            numberFrom = at;
            int value = 0;
            // No number that is asked for has more than three digits: a greater value need not be exact.
            for (; at < length && isDigit(here()); at++) value = Math.min(9999, value * 10 + here() - '0');
            if (value <= most) return value;
            fail(2, numberFrom);
            return NONE;
        }

        private boolean takeName() {
            hereBehindBlanks();
            nameFrom = at;
            for (; at < length && isLetter(here()); at++) continue;
            return at > nameFrom || fail(1, at);
        }

        private boolean isNamed(String name) {
            if (at - nameFrom != name.length()) return false;
            for (int k = 0; k < name.length(); k++) {
                int place = nameFrom + k;
                if (place < 0 || place >= TAPE || bytes[place] != name.charAt(k)) return false;
            }
            return true;
        }

        private boolean open(int place) {
            opens++;
            return opens <= OPENS || fail(3, place);
        }

        private void shut() {
            opens--;
        }

        /** SG; NONE behind a FAULT. */
        private int takeSign(boolean inWord) {
            int sign = here();
            boolean escaped = sign == '\\';
            if (escaped) {
                at++;
                sign = here();
            }
            if (!isSign(sign) || !escaped && isBarred(sign, inWord)) {
                fail(1, at);
                return NONE;
            }
            at++;
            return sign;
        }

        private static boolean isBarred(int sign, boolean inWord) {
            if (inWord) return sign == '\'';
            return sign == ']' || sign == '-' || sign == ' ';
        }

        /** A WORD, its SIGNS put into row from a place on: how many; NONE behind a FAULT. */
        private int takeWord(int[] row, int from) {
            if (!take('\'')) return NONE;
            wordFrom = at - 1;
            int many = 0;
            for (; at < length && here() != '\''; many++) {
                int sign = takeSign(true);
                if (sign == NONE) return NONE;
                int place = from + many;
                if (many < WORD && place >= 0 && place < row.length) row[place] = sign;
            }
            boolean closed = at < length;
            if (!closed || many == 0 || many > WORD) {
                fail(closed && many > WORD ? 2 : 1, at);
                return NONE;
            }
            at++;
            return many;
        }
    }

    /** A set of SIGNS. */
    private static final class Signs {
        private static final long HIGH = 0x7fffffffL;
        private long low;
        private long high;

        private void clear() {
            low = 0;
            high = 0;
        }

        private void copyFrom(Signs other) {
            low = other.low;
            high = other.high;
        }

        private void add(int sign) {
            int bit = sign - FIRST_SIGN;
            if (bit < 0 || bit >= SIGNS) return;
            if (bit < 64) low |= 1L << bit;
            else high |= 1L << bit - 64;
        }

        private boolean has(int sign) {
            int bit = sign - FIRST_SIGN;
            if (bit < 0 || bit >= SIGNS) return false;
            return (bit < 64 ? low >>> bit & 1 : high >>> bit - 64 & 1) != 0;
        }

        private void join(Signs other) {
            low |= other.low;
            high |= other.high;
        }

        private void meet(Signs other) {
            low &= other.low;
            high &= other.high;
        }

        private void lessen(Signs other) {
            low &= ~other.low;
            high &= ~other.high;
        }

        private void turn() {
            low = ~low;
            high = ~high & HIGH;
        }

        private int size() {
            return Long.bitCount(low) + Long.bitCount(high);
        }

        private boolean like(Signs other) {
            return low == other.low && high == other.high;
        }

        private boolean within(Signs other) {
            return (low & ~other.low) == 0 && (high & ~other.high) == 0;
        }

        private boolean meets(Signs other) {
            return (low & other.low) != 0 || (high & other.high) != 0;
        }

        private int least() {
            for (int sign = FIRST_SIGN; sign <= LAST_SIGN; sign++) {
                if (has(sign)) return sign;
            }
            return NONE;
        }

        private int greatest() {
            for (int sign = LAST_SIGN; sign >= FIRST_SIGN; sign--) {
                if (has(sign)) return sign;
            }
            return NONE;
        }

        private int stretches() {
            int many = 0;
            for (int sign = FIRST_SIGN; sign <= LAST_SIGN; sign++) {
                if (has(sign) && !has(sign - 1)) many++;
            }
            return many;
        }
    }

    /** A GRAMMAR as it is told; the parts of PRODUCTION p stand from p * PARTS on. */
    private static final class Rules {
        private static final int CLASS = 0;
        private static final int SORT = 1;
        private static final int LITERAL = 2;
        private final Signs[] classes = new Signs[CLASSES];
        private int classCount;
        private int productionCount;
        private final int[] productionSort = new int[PRODUCTIONS];
        private final boolean[] isRule = new boolean[PRODUCTIONS];
        private final int[] partCount = new int[PRODUCTIONS];
        private final int[] partKind = new int[PRODUCTIONS * PARTS];
        /** A CLASS, a SORT, or how many SIGNS a WORD has. */
        private final int[] partValue = new int[PRODUCTIONS * PARTS];
        private final int[] partWord = new int[PRODUCTIONS * PARTS * WORD];
        private int quoteCount;
        private final int[] quoteSort = new int[QUOTES];
        private final int[] quoteOf = new int[QUOTES];
        /** OPEN, CLOSE, ESCAPE of each QUOTE. */
        private final int[] quoteSigns = new int[QUOTES * 3];
        private int notCount;
        private final int[] notSort = new int[NOTS];
        private final int[] notClass = new int[NOTS];
        private int dropCount;
        private final int[] dropSort = new int[DROPS];
        private final int[] dropOf = new int[DROPS];
        private int lay = NONE;
        private final Sorts sorts = new Sorts();

        private Rules() {
            for (int k = 0; k < CLASSES; k++) classes[k] = new Signs();
        }

        private void clear() {
            classCount = 0;
            productionCount = 0;
            quoteCount = 0;
            notCount = 0;
            dropCount = 0;
            lay = NONE;
        }

        private int firstClassLike(Signs signs) {
            for (int k = 0; k < classCount && k < CLASSES; k++) {
                if (classes[k].like(signs)) return k;
            }
            return NONE;
        }

        /** The CLASSES (bits) that a SIGN is of. */
        private int classesOf(int sign) {
            int bits = 0;
            for (int k = 0; k < classCount && k < CLASSES; k++) {
                if (classes[k].has(sign)) bits |= 1 << k;
            }
            return bits;
        }
    }

    /** What follows from a GRAMMAR for its SORTS and for single SIGNS. */
    private static final class Sorts {
        private final int[] uses = new int[SORTS];
        private final int[] drops = new int[SORTS];
        private final int[] needs = new int[SORTS];
        private final int[] layer = new int[SORTS];
        private int topLayer;
        private int empty;
        private final Signs[] begins = new Signs[SORTS];
        /** SIGNS that stand in a WORD or a QUOTE. */
        private final Signs named = new Signs();
        /** The CLASSES (bits) of a SIGN. */
        private final int[] classBits = new int[LAST_SIGN + 1];

        private Sorts() {
            for (int sort = 0; sort < SORTS; sort++) begins[sort] = new Signs();
        }

        private void findNeeds(Rules rules) {
            Arrays.fill(uses, 0);
            Arrays.fill(drops, 0);
            for (int p = 0; p < rules.productionCount; p++) {
                for (int part = p * PARTS; part < p * PARTS + rules.partCount[p]; part++) {
                    if (rules.partKind[part] == Rules.SORT) uses[rules.productionSort[p]] |= 1 << rules.partValue[part];
                }
            }
            for (int q = 0; q < rules.quoteCount; q++) uses[rules.quoteSort[q]] |= 1 << rules.quoteOf[q];
            for (int d = 0; d < rules.dropCount; d++) drops[rules.dropSort[d]] |= 1 << rules.dropOf[d];
            for (int sort = 0; sort < SORTS; sort++) needs[sort] = uses[sort] | drops[sort];
            for (int between = 0; between < SORTS; between++) {
                for (int sort = 0; sort < SORTS; sort++) {
                    if ((needs[sort] >>> between & 1) != 0) needs[sort] |= needs[between];
                }
            }
        }

        /** Asks for findNeeds, and that no SORT needs one by which it is dropped. */
        private void findRest(Rules rules) {
            findLayers();
            empty = 0;
            // A chain of SORTS has eight links at most, so eight rounds reach all.
            for (int round = 0; round < SORTS; round++) findEmpty(rules);
            for (int sort = 0; sort < SORTS; sort++) begins[sort].clear();
            for (int round = 0; round < SORTS; round++) findBegins(rules);
            nameSigns(rules);
            for (int sign = FIRST_SIGN; sign <= LAST_SIGN; sign++) classBits[sign] = rules.classesOf(sign);
        }

        private void findLayers() {
            Arrays.fill(layer, 0);
            for (int round = 0; round < SORTS; round++) {
                for (int sort = 0; sort < SORTS; sort++) {
                    for (int other = 0; other < SORTS; other++) {
                        if ((uses[sort] >>> other & 1) != 0) layer[sort] = Math.max(layer[sort], layer[other]);
                        if ((drops[sort] >>> other & 1) != 0) layer[sort] = Math.max(layer[sort], layer[other] + 1);
                    }
                }
            }
            topLayer = 0;
            for (int sort = 0; sort < SORTS; sort++) topLayer = Math.max(topLayer, layer[sort]);
        }

        private void findEmpty(Rules rules) {
            for (int p = 0; p < rules.productionCount; p++) {
                boolean all = true;
                for (int part = p * PARTS; part < p * PARTS + rules.partCount[p]; part++) {
                    if (!canBeEmpty(rules, part)) all = false;
                }
                if (all) empty |= 1 << rules.productionSort[p];
            }
        }

        private boolean canBeEmpty(Rules rules, int part) {
            return rules.partKind[part] == Rules.SORT && (empty >>> rules.partValue[part] & 1) != 0;
        }

        private void findBegins(Rules rules) {
            for (int p = 0; p < rules.productionCount; p++) {
                Signs signs = begins[rules.productionSort[p]];
                for (int part = p * PARTS; part < p * PARTS + rules.partCount[p]; part++) {
                    int value = rules.partValue[part];
                    if (rules.partKind[part] == Rules.CLASS) signs.join(rules.classes[value]);
                    else if (rules.partKind[part] == Rules.SORT) signs.join(begins[value]);
                    else signs.add(rules.partWord[part * WORD]);
                    if (!canBeEmpty(rules, part)) break;
                }
            }
            for (int q = 0; q < rules.quoteCount; q++) begins[rules.quoteSort[q]].add(rules.quoteSigns[q * 3]);
        }

        private void nameSigns(Rules rules) {
            named.clear();
            for (int q = 0; q < rules.quoteCount * 3; q++) named.add(rules.quoteSigns[q]);
            for (int p = 0; p < rules.productionCount; p++) {
                for (int part = p * PARTS; part < p * PARTS + rules.partCount[p]; part++) {
                    if (rules.partKind[part] != Rules.LITERAL) continue;
                    for (int k = 0; k < rules.partValue[part]; k++) named.add(rules.partWord[part * WORD + k]);
                }
            }
        }

        /** The least SIGN that no GRAMMAR's clause tells apart from this one. */
        private int twinOf(int sign) {
            if (!isSign(sign) || named.has(sign)) return sign;
            for (int other = FIRST_SIGN; other < sign; other++) {
                if (classBits[other] == classBits[sign] && !named.has(other)) return other;
            }
            return sign;
        }
    }

    /** Reads a GRAMMAR. */
    private static final class GrammarReader {
        private static final int OTHER = 0;
        private static final int CLASS = 1;
        private static final int RULE = 2;
        private static final int TOKEN = 3;
        private static final int QUOTE = 4;
        private static final int NOT = 5;
        private static final int DROP = 6;
        private static final int LAY = 7;
        private Reader reader;
        private Rules rules;
        private int clause;
        /** A CE's value stands in its own row, what is told behind it in the next ones. */
        private final Signs[] sets = new Signs[OPENS + 2];
        private final int[] dropPlace = new int[DROPS];
        private final int[] dropClause = new int[DROPS];
        private final int[] quoteWord = new int[WORD];

        private GrammarReader() {
            for (int k = 0; k < sets.length; k++) sets[k] = new Signs();
        }

        private boolean readAll(Reader from, Rules into) {
            reader = from;
            rules = into;
            rules.clear();
            // The clause behind the last one that may stand faults, so there is no end but in the loop.
            for (clause = 0; clause <= CLAUSES; clause++) {
                if (reader.hereBehindBlanks() == NONE) break;
                if (!readClause() || !reader.take(';')) return false;
            }
            rules.sorts.findNeeds(rules);
            if (!dropsAreSound()) return false;
            rules.sorts.findRest(rules);
            return true;
        }

        private boolean dropsAreSound() {
            for (int d = 0; d < rules.dropCount; d++) {
                if ((rules.sorts.needs[rules.dropOf[d]] >>> rules.dropSort[d] & 1) == 0) continue;
                clause = dropClause[d];
                return reader.fail(4, dropPlace[d]);
            }
            return true;
        }

        private boolean readClause() {
            if (!reader.takeName()) return false;
            int kind = kindOfClause();
            if (kind == OTHER) return reader.fail(1, reader.nameFrom);
            if (clause >= CLAUSES || isFull(kind)) return reader.fail(3, reader.nameFrom);
            switch (kind) {
                case CLASS: return readSet(0) && addClass();
                case RULE: return readProduction(true);
                case TOKEN: return readProduction(false);
                case QUOTE: return readQuote();
                case NOT: return readNot();
                case DROP: return readDrop();
                default: return readLay();
            }
        }

        private int kindOfClause() {
            if (reader.isNamed("class")) return CLASS;
            if (reader.isNamed("rule")) return RULE;
            if (reader.isNamed("token")) return TOKEN;
            if (reader.isNamed("quote")) return QUOTE;
            if (reader.isNamed("not")) return NOT;
            if (reader.isNamed("drop")) return DROP;
            return reader.isNamed("lay") ? LAY : OTHER;
        }

        private boolean isFull(int kind) {
            switch (kind) {
                case CLASS: return rules.classCount >= CLASSES;
                case RULE:
                case TOKEN: return rules.productionCount >= PRODUCTIONS;
                case QUOTE: return rules.quoteCount >= QUOTES;
                case NOT: return rules.notCount >= NOTS;
                case DROP: return rules.dropCount >= DROPS;
                default: return false;
            }
        }

        private int takeSort() {
            return reader.takeNumber(SORTS - 1);
        }

        /** "#" K. */
        private int takeClass() {
            return reader.take('#') ? reader.takeNumber(rules.classCount - 1) : NONE;
        }

        private boolean addClass() {
            rules.classes[rules.classCount].copyFrom(sets[0]);
            rules.classCount++;
            return true;
        }

        /** CE; each row behind the first is asked for by one more "(", so OPENS bounds them. */
        private boolean readSet(int row) {
            if (!readTerm(row)) return false;
            for (int k = 0; k < TAPE; k++) {
                int sign = reader.hereBehindBlanks();
                if (sign != '|' && sign != '&' && sign != '-') return true;
                reader.at++;
                if (!readTerm(row + 1)) return false;
                if (sign == '|') sets[row].join(sets[row + 1]);
                else if (sign == '&') sets[row].meet(sets[row + 1]);
                else sets[row].lessen(sets[row + 1]);
            }
            return false;
        }

        /** CT. */
        private boolean readTerm(int row) {
            int sign = reader.hereBehindBlanks();
            if (row < 0 || row + 1 > sets.length) return reader.fail(3, reader.at);
            switch (sign) {
                case '#': break;
                case '[': return readBrackets(sets[row]);
                case '~':
                case '(': return readOpened(sign, row);
                default: return reader.fail(1, reader.at);
            }
            int k = takeClass();
            if (k == NONE) return false;
            sets[row].copyFrom(rules.classes[k]);
            return true;
        }

        private boolean readOpened(int sign, int row) {
            if (!reader.open(reader.at)) return false;
            reader.at++;
            boolean good = sign == '~' ? readTerm(row) : readSet(row) && reader.take(')');
            if (!good) return false;
            if (sign == '~') sets[row].turn();
            reader.shut();
            return true;
        }

        private boolean readBrackets(Signs set) {
            reader.at++;
            set.clear();
            for (int k = 0; k < TAPE && reader.here() != ']'; k++) {
                int first = reader.takeSign(false);
                if (first == NONE) return false;
                int last = first;
                if (reader.here() == '-') {
                    reader.at++;
                    int place = reader.at;
                    last = reader.takeSign(false);
                    if (last == NONE) return false;
                    if (last < first) return reader.fail(2, place);
                }
                for (int sign = first; sign <= last; sign++) set.add(sign);
            }
            reader.at++;
            return true;
        }

        private boolean readProduction(boolean rule) {
            int sort = takeSort();
            if (sort == NONE) return false;
            int p = rules.productionCount;
            rules.productionSort[p] = sort;
            rules.isRule[p] = rule;
            for (int k = 0; k <= PARTS; k++) {
                rules.partCount[p] = k;
                int sign = reader.hereBehindBlanks();
                if (sign != '#' && sign != '@' && sign != '\'') break;
                if (k == PARTS) return reader.fail(3, reader.at);
                if (!readPart(p * PARTS + k, sign)) return false;
            }
            rules.productionCount++;
            return true;
        }

        private boolean readPart(int part, int sign) {
            int value;
            if (sign == '#') {
                rules.partKind[part] = Rules.CLASS;
                value = takeClass();
            } else if (sign == '@') {
                rules.partKind[part] = Rules.SORT;
                reader.at++;
                value = takeSort();
            } else {
                rules.partKind[part] = Rules.LITERAL;
                value = reader.takeWord(rules.partWord, part * WORD);
            }
            rules.partValue[part] = value;
            return value != NONE;
        }

        private boolean readQuote() {
            int sort = takeSort();
            if (sort == NONE) return false;
            int of = takeSort();
            if (of == NONE) return false;
            int many = reader.takeWord(quoteWord, 0);
            if (many == NONE) return false;
            if (many != 3) return reader.fail(2, reader.at - 1);
            if (quoteWord[2] == quoteWord[0] || quoteWord[2] == quoteWord[1]) return reader.fail(2, reader.wordFrom);
            int q = rules.quoteCount;
            rules.quoteSort[q] = sort;
            rules.quoteOf[q] = of;
            for (int k = 0; k < 3; k++) rules.quoteSigns[q * 3 + k] = quoteWord[k];
            rules.quoteCount++;
            return true;
        }

        private boolean readNot() {
            int sort = takeSort();
            if (sort == NONE) return false;
            int k = takeClass();
            if (k == NONE) return false;
            rules.notSort[rules.notCount] = sort;
            rules.notClass[rules.notCount] = k;
            rules.notCount++;
            return true;
        }

        private boolean readDrop() {
            int d = rules.dropCount;
            dropPlace[d] = reader.nameFrom;
            dropClause[d] = clause;
            int sort = takeSort();
            if (sort == NONE) return false;
            int of = takeSort();
            if (of == NONE) return false;
            if (of == sort) return reader.fail(2, reader.numberFrom);
            rules.dropSort[d] = sort;
            rules.dropOf[d] = of;
            rules.dropCount++;
            return true;
        }

        private boolean readLay() {
            int k = takeClass();
            if (k == NONE) return false;
            rules.lay = k;
            return true;
        }
    }

    /** A LAW: what it is worked out by, each step behind those that it takes up. */
    private static final class Law {
        private static final int NUMBER = 0;
        private static final int FACT = 1;
        private static final int LEAST = 2;
        private static final int MOST = 3;
        private final int[] kinds = new int[SHORT_TEXT];
        private final int[] values = new int[SHORT_TEXT];
        private int count;
        private final int[] stack = new int[SHORT_TEXT];
        private Reader reader;

        private Law() {
            clear();
        }

        private void clear() {
            count = 0;
            add(NUMBER, 1);
        }

        private void add(int kind, int value) {
            if (count >= SHORT_TEXT) return;
            kinds[count] = kind;
            values[count] = value;
            count++;
        }

        private boolean readAll(Reader from) {
            reader = from;
            count = 0;
            return readSum(0) && reader.takeEnd();
        }

        /** E; depth is how many of ( least most are open, which open() bounds. */
        private boolean readSum(int depth) {
            if (depth > OPENS || !readProduct(depth)) return false;
            for (int k = 0; k < SHORT_TEXT; k++) {
                int sign = reader.hereBehindBlanks();
                if (sign != '+' && sign != '-') return true;
                reader.at++;
                if (!readProduct(depth)) return false;
                add(sign, 0);
            }
            return false;
        }

        /** T. */
        private boolean readProduct(int depth) {
            if (!readUnit(depth)) return false;
            for (int k = 0; k < SHORT_TEXT; k++) {
                int sign = reader.hereBehindBlanks();
                if (sign != '*' && sign != '/' && sign != '%') return true;
                reader.at++;
                if (!readUnit(depth)) return false;
                add(sign, 0);
            }
            return false;
        }

        /** U. */
        private boolean readUnit(int depth) {
            int sign = reader.hereBehindBlanks();
            if (isDigit(sign)) {
                int number = reader.takeNumber(999);
                add(NUMBER, number);
                return number != NONE;
            }
            if (sign == '(') {
                if (!reader.open(reader.at)) return false;
                reader.at++;
                if (!readSum(depth + 1) || !reader.take(')')) return false;
                reader.shut();
                return true;
            }
            if (!reader.takeName()) return false;
            if (reader.isNamed("least")) return readPair(LEAST, depth);
            if (reader.isNamed("most")) return readPair(MOST, depth);
            int fact = namedFact();
            if (fact == NONE) return reader.fail(1, reader.nameFrom);
            add(FACT, fact);
            return true;
        }

        private boolean readPair(int kind, int depth) {
            if (!reader.open(reader.nameFrom) || !reader.take('[')) return false;
            if (!readSum(depth + 1) || !reader.take(',')) return false;
            if (!readSum(depth + 1) || !reader.take(']')) return false;
            reader.shut();
            add(kind, 0);
            return true;
        }

        /** The number by which node() tells what is named. */
        private int namedFact() {
            if (reader.isNamed("sort")) return 0;
            if (reader.isNamed("from")) return 1;
            if (reader.isNamed("to")) return 2;
            if (reader.isNamed("high")) return 3;
            if (reader.isNamed("ways")) return 4;
            return reader.isNamed("deep") ? 5 : NONE;
        }

        /** WORTH of the k-th node. */
        private int valueFor(Tree tree, int k) {
            int top = 0;
            for (int step = 0; step < count; step++) {
                int kind = kinds[step];
                if (kind == NUMBER || kind == FACT) {
                    if (top >= SHORT_TEXT) return 0;
                    stack[top] = kind == NUMBER ? values[step] : tree.fact(k, values[step]);
                    top++;
                } else {
                    if (top < 2) return 0;
                    top--;
                    stack[top - 1] = combine(kind, stack[top - 1], stack[top]);
                }
            }
            return stack[0];
        }

        private static int combine(int kind, int first, int second) {
            switch (kind) {
                case '+': return first + second;
                case '-': return first - second;
                case '*': return first * second;
                case '/': return second == 0 ? 0 : first / second;
                case '%': return second == 0 ? 0 : first % second;
                case LEAST: return Math.min(first, second);
                default: return Math.max(first, second);
            }
        }
    }

    /** WORK: its STEPS in a row; an again's END stands behind its last one. */
    private static final class Steps {
        private static final int OTHER = 0;
        private static final int TYPE = 1;
        private static final int CUT = 2;
        private static final int SWAP = 3;
        private static final int AGAIN = 4;
        private static final int END = 5;
        private static final int MOST_BEGUN = 200;
        /** Each END comes behind a STEP that was begun, so this is never reached. */
        private static final int MOST_TURNS = 1000;
        private final int[] kinds = new int[SHORT_TEXT];
        private final int[] firsts = new int[SHORT_TEXT];
        /** Of an again the place of its END, of an END that of its again. */
        private final int[] seconds = new int[SHORT_TEXT];
        private final int[] words = new int[SHORT_TEXT * WORD];
        private int count;
        private final int[] timesLeft = new int[OPENS + 1];
        private Reader reader;
        private int outermost;
        private int done;
        private int refused;

        private boolean readAll(Reader from) {
            reader = from;
            count = 0;
            outermost = 0;
            return readList(0) && reader.takeEnd();
        }

        /** { STEP ";" }; depth is how many agains are open, which open() bounds. */
        private boolean readList(int depth) {
            for (int k = 0; k < SHORT_TEXT; k++) {
                int sign = reader.hereBehindBlanks();
                if (sign == NONE || sign == ']') return true;
                if (!readStep(depth) || !reader.take(';')) return false;
                if (depth == 0) outermost++;
            }
            return true;
        }

        private boolean readStep(int depth) {
            if (!reader.takeName()) return false;
            int kind = kindOfStep();
            if (kind == OTHER || count + 1 >= SHORT_TEXT) return reader.fail(1, reader.nameFrom);
            if (kind == AGAIN) return readAgain(depth);
            int first = reader.takeNumber(LONGEST);
            if (first == NONE) return false;
            int second = kind == TYPE ? reader.takeWord(words, count * WORD) : reader.takeNumber(LONGEST);
            if (second == NONE) return false;
            add(kind, first, second);
            return true;
        }

        private int kindOfStep() {
            if (reader.isNamed("type")) return TYPE;
            if (reader.isNamed("cut")) return CUT;
            if (reader.isNamed("swap")) return SWAP;
            return reader.isNamed("again") ? AGAIN : OTHER;
        }

        private boolean readAgain(int depth) {
            if (!reader.open(reader.nameFrom) || depth >= OPENS) return false;
            int times = reader.takeNumber(40);
            if (times == NONE || !reader.take('[')) return false;
            int begin = count;
            add(AGAIN, times, 0);
            if (!readList(depth + 1) || !reader.take(']')) return false;
            reader.shut();
            seconds[begin] = count;
            add(END, 0, begin);
            return true;
        }

        private void add(int kind, int first, int second) {
            if (count >= SHORT_TEXT) return;
            kinds[count] = kind;
            firsts[count] = first;
            seconds[count] = second;
            count++;
        }

        private void perform(Table text) {
            done = 0;
            refused = 0;
            int begun = 0;
            int depth = 0;
            int at = 0;
            for (int turn = 0; turn < MOST_TURNS && at >= 0 && at < count; turn++) {
                if (kinds[at] == END) {
                    timesLeft[depth]--;
                    if (timesLeft[depth] > 0) {
                        at = seconds[at] + 1;
                    } else {
                        depth--;
                        at++;
                    }
                    continue;
                }
                if (begun == MOST_BEGUN) return;
                begun++;
                if (kinds[at] != AGAIN) {
                    if (performOne(text, at)) done++;
                    else refused++;
                    at++;
                } else if (firsts[at] == 0 || seconds[at] == at + 1 || depth >= OPENS) {
                    at = seconds[at] + 1;
                } else {
                    depth++;
                    timesLeft[depth] = firsts[at];
                    at++;
                }
            }
        }

        private boolean performOne(Table text, int at) {
            if (kinds[at] == TYPE) return text.typeSigns(firsts[at], words, at * WORD, seconds[at]);
            if (kinds[at] == CUT) return text.cutSigns(firsts[at], seconds[at]);
            return text.swapSigns(firsts[at], seconds[at]);
        }
    }

    /** A text (the TEXT, a BODY, one that is tried), and which PIECES of it are OF which SORT. */
    private static final class Table {
        private final int[] signs = new int[LONGEST];
        private int length;
        private final int[] runs = new int[PLACES];
        /** Of SORT s from place i on, at s * PLACES + i: the places (bits) at which PIECES OF it end. */
        private final int[] found = new int[SORTS * PLACES];
        /** Of QUOTE q from place i on, at q * PLACES + i: where it ends, its BODY being OF its T; else NONE. */
        private final int[] quoteEnds = new int[QUOTES * PLACES];

        private void copyText(Table other) {
            length = other.length;
            System.arraycopy(other.signs, 0, signs, 0, length);
        }

        private void makeRoom(int place, int many) {
            for (int k = length - 1; k >= place; k--) signs[k + many] = signs[k];
            length += many;
        }

        private boolean typeSigns(int place, int[] words, int from, int many) {
            if (place < 0 || place > length || many < 1 || length + many > LONGEST) return false;
            makeRoom(place, many);
            for (int k = 0; k < many; k++) signs[place + k] = words[from + k];
            return true;
        }

        private boolean typeSign(int place, int sign) {
            if (place < 0 || place > length || length + 1 > LONGEST) return false;
            makeRoom(place, 1);
            signs[place] = sign;
            return true;
        }

        private boolean cutSigns(int place, int many) {
            if (place < 0 || many < 1 || place + many > length) return false;
            for (int k = place + many; k < length; k++) signs[k - many] = signs[k];
            length -= many;
            return true;
        }

        private boolean swapSigns(int first, int second) {
            if (first < 0 || first >= length || second < 0 || second >= length) return false;
            if (signs[first] == signs[second]) return false;
            int sign = signs[first];
            signs[first] = signs[second];
            signs[second] = sign;
            return true;
        }

        /** Puts the BODY of a QUOTE into another text: where the QUOTE ends, NONE if there is none. */
        private int copyBody(Rules rules, int q, int place, Table into) {
            if (place < 0 || place >= length || signs[place] != rules.quoteSigns[q * 3]) return NONE;
            int close = rules.quoteSigns[q * 3 + 1];
            int escape = rules.quoteSigns[q * 3 + 2];
            int many = 0;
            for (int at = place + 1; at < length; at++) {
                int sign = signs[at];
                if (sign == close) {
                    into.length = many;
                    return at + 1;
                }
                if (sign == escape) {
                    at++;
                    if (at >= length) return NONE;
                    sign = signs[at];
                }
                into.signs[many] = sign;
                many++;
            }
            return NONE;
        }

        private void findRuns(Rules rules) {
            runs[length] = length;
            for (int place = length - 1; place >= 0; place--) {
                boolean blank = rules.lay != NONE && rules.classes[rules.lay].has(signs[place]);
                runs[place] = blank ? runs[place + 1] : place;
            }
        }

        /** The places at which the layout behind these places ends. */
        private int behindLayout(int places) {
            int behind = 0;
            for (int place = 0; place <= length; place++) {
                if ((places >>> place & 1) != 0) behind |= 1 << runs[place];
            }
            return behind;
        }

        private boolean isOf(int sort, int i, int j) {
            return (found[sort * PLACES + i] >>> j & 1) != 0;
        }

        /** The SORTS (bits) that the text as a whole is OF. */
        private int whole() {
            int sorts = 0;
            for (int sort = 0; sort < SORTS; sort++) {
                if (isOf(sort, 0, length)) sorts |= 1 << sort;
            }
            return sorts;
        }

        private int piecesOf(int sort) {
            int many = 0;
            for (int i = 0; i <= length; i++) many += Integer.bitCount(found[sort * PLACES + i]);
            return many;
        }

        /** The greatest place at which a PIECE from 0 on OF a SORT ends; 0 without. */
        private int greatestEnd(int sort) {
            for (int j = length; j > 0; j--) {
                if (isOf(sort, 0, j)) return j;
            }
            return 0;
        }
    }

    /** Finds the PIECES of texts, the bodies in them first. */
    private static final class Finder {
        /** A power of two, for the places of what is known of bodies. */
        private static final int KEPT = 256;
        private Rules rules;
        private Sorts sorts;
        /** The BODY that is looked at on each level behind that of the TEXT. */
        private final Table[] bodies = new Table[LEVELS - 1];
        private final int[] barred = new int[SORTS];
        private final int[] allowed = new int[SORTS];
        private final int[] reasons = new int[LEVELS * 3];
        private final Signs fitting = new Signs();
        /** Bodies come again and again: their SIGNS (in three numbers), and the SORTS that they are OF. */
        private final long[] keptSigns = new long[KEPT * 3];
        private final int[] keptSorts = new int[KEPT];
        private int keptCount;

        private Finder() {
            for (int k = 0; k < bodies.length; k++) bodies[k] = new Table();
        }

        private void take(Rules newRules) {
            rules = newRules;
            sorts = newRules.sorts;
            Arrays.fill(keptSorts, NONE);
            keptCount = 0;
        }

        /** Finds the PIECES from place from on to the left; those behind it must be known. */
        private void fill(Table text, int level, int from) {
            text.findRuns(rules);
            findQuotes(text, level, from);
            findBarred(text);
            for (int i = from; i >= 0; i--) fillPlace(text, i);
        }

        private void findQuotes(Table text, int level, int from) {
            for (int q = 0; q < rules.quoteCount; q++) {
                for (int i = from; i >= 0; i--) text.quoteEnds[q * PLACES + i] = quoteEnd(text, level, q, i);
            }
        }

        private int quoteEnd(Table text, int level, int q, int i) {
            if (level < 0 || level >= bodies.length) return NONE;
            Table body = bodies[level];
            int end = text.copyBody(rules, q, i, body);
            if (end == NONE) return NONE;
            return (sortsOfBody(body, level + 1) >>> rules.quoteOf[q] & 1) != 0 ? end : NONE;
        }

        private int sortsOfBody(Table body, int level) {
            long first = packed(body, 0);
            long second = packed(body, 9);
            long third = packed(body, 18) << 8 | body.length << 2 | level;
            int slot = slotOf(first, second, third);
            for (int k = 0; k < KEPT && keptSorts[slot] != NONE; k++) {
                if (keptSigns[slot * 3] == first && keptSigns[slot * 3 + 1] == second
                        && keptSigns[slot * 3 + 2] == third) return keptSorts[slot];
                slot = slot + 1 & KEPT - 1;
            }
            fill(body, level, body.length);
            int whole = body.whole();
            keep(first, second, third, whole);
            return whole;
        }

        private static long packed(Table body, int from) {
            long number = 0;
            for (int k = from; k < from + 9 && k < body.length; k++) number = number << 7 | body.signs[k];
            return number;
        }

        private static int slotOf(long first, long second, long third) {
            long mixed = ((first * 31 + second) * 31 + third) * 0x9E3779B97F4A7C15L;
            return (int) (mixed >>> 40) & KEPT - 1;
        }

        private void keep(long first, long second, long third, int whole) {
            // A quarter of the places stays free, so that each search comes to a free one.
            if (keptCount >= KEPT - KEPT / 4) {
                Arrays.fill(keptSorts, NONE);
                keptCount = 0;
            }
            int slot = slotOf(first, second, third);
            for (int k = 0; k < KEPT && keptSorts[slot] != NONE; k++) slot = slot + 1 & KEPT - 1;
            keptSigns[slot * 3] = first;
            keptSigns[slot * 3 + 1] = second;
            keptSigns[slot * 3 + 2] = third;
            keptSorts[slot] = whole;
            keptCount++;
        }

        /** The places (bits) at which no PIECE OF a SORT may end for the SIGN there. */
        private void findBarred(Table text) {
            Arrays.fill(barred, 0);
            for (int k = 0; k < rules.notCount; k++) {
                for (int place = 0; place < text.length; place++) {
                    if (rules.classes[rules.notClass[k]].has(text.signs[place])) barred[rules.notSort[k]] |= 1 << place;
                }
            }
        }

        private void fillPlace(Table text, int i) {
            for (int sort = 0; sort < SORTS; sort++) text.found[sort * PLACES + i] = 0;
            for (int layer = 0; layer <= sorts.topLayer; layer++) {
                for (int sort = 0; sort < SORTS; sort++) {
                    if (sorts.layer[sort] == layer) allowed[sort] = ~(barred[sort] | dropped(text, sort, i));
                }
                addQuotes(text, i, layer);
                addProductions(text, i, layer);
            }
        }

        private int dropped(Table text, int sort, int i) {
            int places = 0;
            for (int other = 0; other < SORTS; other++) {
                if ((sorts.drops[sort] >>> other & 1) != 0) places |= text.found[other * PLACES + i];
            }
            return places;
        }

        private void addQuotes(Table text, int i, int layer) {
            for (int q = 0; q < rules.quoteCount; q++) {
                int sort = rules.quoteSort[q];
                int end = text.quoteEnds[q * PLACES + i];
                if (sorts.layer[sort] == layer && end != NONE) text.found[sort * PLACES + i] |= 1 << end & allowed[sort];
            }
        }

        /** Until nothing comes to it: what begins here may begin with what begins here. */
        private void addProductions(Table text, int i, int layer) {
            boolean more = true;
            for (int round = 0; round <= SORTS * PLACES && more; round++) {
                more = false;
                for (int p = 0; p < rules.productionCount; p++) {
                    int sort = rules.productionSort[p];
                    if (sorts.layer[sort] != layer || round > 0 && !leans(p)) continue;
                    int cell = sort * PLACES + i;
                    int fresh = reach(text, p, i, text.found) & allowed[sort] & ~text.found[cell];
                    text.found[cell] |= fresh;
                    if (fresh != 0) more = true;
                }
            }
        }

        /** Whether a PRODUCTION begins with a SORT. */
        private boolean leans(int p) {
            return rules.partCount[p] > 0 && rules.partKind[p * PARTS] == Rules.SORT;
        }

        /** The places (bits) at which a PRODUCTION from i on can end, PIECES OF SORTS being those of ends. */
        private int reach(Table text, int p, int i, int[] ends) {
            int places = 1 << i;
            for (int k = 0; k < rules.partCount[p] && places != 0; k++) {
                if (k > 0 && rules.isRule[p]) places = text.behindLayout(places);
                int next = 0;
                for (int place = i; place <= text.length; place++) {
                    if ((places >>> place & 1) != 0) next |= partEnds(text, p * PARTS + k, place, ends);
                }
                places = next;
            }
            return places;
        }

        /** The places (bits) at which one EL that begins at a place can end. */
        private int partEnds(Table text, int part, int place, int[] ends) {
            int value = rules.partValue[part];
            if (rules.partKind[part] == Rules.SORT) return ends[value * PLACES + place];
            if (rules.partKind[part] == Rules.CLASS) {
                if (place >= text.length) return 0;
                return (sorts.classBits[text.signs[place]] >>> value & 1) << place + 1;
            }
            if (place + value > text.length) return 0;
            for (int k = 0; k < value; k++) {
                if (text.signs[place + k] != rules.partWord[part * WORD + k]) return 0;
            }
            return 1 << place + value;
        }

        /** The SIGNS that fit at a place; SIGNS that the GRAMMAR tells nowhere apart are tried once. */
        private Signs fittingSigns(Table text, Table trial, int sort, int place) {
            trial.copyText(text);
            fitting.clear();
            for (int sign = FIRST_SIGN; sign <= LAST_SIGN; sign++) {
                int twin = sorts.twinOf(sign);
                if (twin < sign) {
                    if (fitting.has(twin)) fitting.add(sign);
                    continue;
                }
                trial.signs[place] = sign;
                // What begins behind the place stays as the first SIGN has left it.
                fill(trial, 0, sign == FIRST_SIGN ? trial.length : place);
                if (trial.isOf(sort, 0, trial.length)) fitting.add(sign);
            }
            return fitting;
        }

        /** Puts WRONGS of the TEXT and a SORT into reasons: how many. */
        private int explain(Table text, int sort) {
            if (text.isOf(sort, 0, text.length)) return 0;
            Table blamed = text;
            int blamedSort = sort;
            for (int level = 0; level < LEVELS; level++) {
                reasons[level * 3] = blamed.greatestEnd(blamedSort);
                reasons[level * 3 + 1] = blamedSort;
                reasons[level * 3 + 2] = blamed.length;
                int q = level < bodies.length ? wrongQuote(blamed, bodies[level]) : NONE;
                if (q == NONE) return level + 1;
                blamed = bodies[level];
                blamedSort = rules.quoteOf[q];
                fill(blamed, level + 1, blamed.length);
            }
            return LEVELS;
        }

        /** The first QUOTE that ends, but whose BODY (left in body) is not OF its T. */
        private int wrongQuote(Table text, Table body) {
            for (int i = 0; i < text.length; i++) {
                for (int q = 0; q < rules.quoteCount; q++) {
                    if (text.quoteEnds[q * PLACES + i] == NONE && text.copyBody(rules, q, i, body) != NONE) return q;
                }
            }
            return NONE;
        }
    }

    /** Texts, the latest one last: those that undoing brings back. */
    private static final class Shelf {
        /** One more than there can be WORKS: an image keeps its own text behind them. */
        private static final int ROWS = WORKS + 1;
        private final int[] rows = new int[ROWS * LONGEST];
        private final int[] lengths = new int[ROWS];
        private int count;

        private void keep(Table text) {
            if (count >= ROWS) return;
            System.arraycopy(text.signs, 0, rows, count * LONGEST, LONGEST);
            lengths[count] = text.length;
            count++;
        }

        private void giveBack(Table text) {
            if (count < 1) return;
            count--;
            System.arraycopy(rows, count * LONGEST, text.signs, 0, LONGEST);
            text.length = lengths[count];
        }

        private void copyFrom(Shelf other) {
            System.arraycopy(other.rows, 0, rows, 0, rows.length);
            System.arraycopy(other.lengths, 0, lengths, 0, ROWS);
            count = other.count;
        }
    }

    /** WAYS, HEIGHTS and TREES of the PIECES of the TEXT. */
    private static final class Tree {
        private static final int FACTS = 6;
        private static final int WAYS = 4;
        private static final int MOST_WAYS = 9999;
        private static final int WAITING = 4;
        private final Finder finder;
        private final Table text;
        private boolean measured;
        /** Of SORT s from i to j, at (s * PLACES + i) * PLACES + j; anything if the PIECE is not OF it. */
        private final int[] heights = new int[SORTS * PLACES * PLACES];
        /** Like found of a Table, of the PIECES whose HEIGHT is known by now. */
        private final int[] known = new int[SORTS * PLACES];
        private final int[] fresh = new int[SORTS * PLACES];
        private int grownSort;
        private int grownFrom;
        private int grownTo;
        private int count;
        /** Of each node what node() tells of it, in its order. */
        private final int[] facts = new int[NODES * FACTS];
        /** Nodes that are still to be told, the next one last: SORT, from, to, how deep. */
        private final int[] waiting = new int[(NODES * (PARTS - 1) + 1) * WAITING];
        private int waitingCount;
        /** Of each EL the places (bits) from which it and those behind it come to the end. */
        private final int[] starts = new int[PARTS];
        private final int[] rowsTo = new int[PLACES];
        private final int[] rowsNext = new int[PLACES];

        private Tree(Finder newFinder, Table newText) {
            finder = newFinder;
            text = newText;
            grownSort = NONE;
        }

        /** The PIECES have changed. */
        private void forget() {
            measured = false;
            grownSort = NONE;
        }

        private int waysOf(int sort, int i, int j) {
            if (!text.isOf(sort, i, j)) return 0;
            Rules rules = finder.rules;
            int many = 0;
            for (int p = 0; p < rules.productionCount; p++) {
                if (rules.productionSort[p] == sort) many += rowsOf(p, i, j);
            }
            for (int q = 0; q < rules.quoteCount; q++) {
                if (rules.quoteSort[q] == sort && text.quoteEnds[q * PLACES + i] == j) many++;
            }
            return Math.min(many, MOST_WAYS);
        }

        /** By how many rows of places a PRODUCTION goes from i to j. */
        private int rowsOf(int p, int i, int j) {
            Rules rules = finder.rules;
            Arrays.fill(rowsTo, 0);
            rowsTo[i] = 1;
            for (int k = 0; k < rules.partCount[p]; k++) {
                Arrays.fill(rowsNext, 0);
                for (int end = i; end <= j; end++) {
                    if (rowsTo[end] == 0) continue;
                    int begin = k > 0 && rules.isRule[p] ? text.runs[end] : end;
                    int ends = finder.partEnds(text, p * PARTS + k, begin, text.found);
                    for (int to = begin; to <= j; to++) {
                        if ((ends >>> to & 1) != 0) rowsNext[to] += rowsTo[end];
                    }
                }
                System.arraycopy(rowsNext, 0, rowsTo, 0, PLACES);
            }
            return rowsTo[j];
        }

        private int heightOf(int sort, int i, int j) {
            if (!text.isOf(sort, i, j)) return NONE;
            measure();
            return heights[(sort * PLACES + i) * PLACES + j];
        }

        /** HEIGHTS from 1 on: each is found by PIECES of those below it. */
        private void measure() {
            if (measured) return;
            measured = true;
            Arrays.fill(known, 0);
            boolean more = true;
            for (int height = 1; height <= heights.length && more; height++) {
                more = false;
                for (int sort = 0; sort < SORTS; sort++) {
                    for (int i = 0; i <= text.length; i++) {
                        int cell = sort * PLACES + i;
                        int left = text.found[cell] & ~known[cell];
                        fresh[cell] = left == 0 ? 0 : left & endsBelow(sort, i);
                        if (fresh[cell] != 0) more = true;
                    }
                }
                for (int sort = 0; sort < SORTS; sort++) {
                    for (int i = 0; i <= text.length; i++) setHeights(sort * PLACES + i, height);
                }
            }
        }

        private int endsBelow(int sort, int i) {
            Rules rules = finder.rules;
            int ends = 0;
            for (int p = 0; p < rules.productionCount; p++) {
                if (rules.productionSort[p] == sort) ends |= finder.reach(text, p, i, known);
            }
            for (int q = 0; q < rules.quoteCount; q++) {
                int end = text.quoteEnds[q * PLACES + i];
                if (rules.quoteSort[q] == sort && end != NONE) ends |= 1 << end;
            }
            return ends;
        }

        private void setHeights(int cell, int height) {
            if (fresh[cell] == 0) return;
            for (int j = 0; j <= text.length; j++) {
                if ((fresh[cell] >>> j & 1) != 0) heights[cell * PLACES + j] = height;
            }
            known[cell] |= fresh[cell];
        }

        /** Tells the nodes of a TREE: how many. */
        private int grow(int sort, int i, int j) {
            if (!text.isOf(sort, i, j)) return 0;
            if (sort == grownSort && i == grownFrom && j == grownTo) return count;
            measure();
            grownSort = sort;
            grownFrom = i;
            grownTo = j;
            waitingCount = 0;
            await(sort, i, j, 0);
            for (count = 0; count < NODES && waitingCount > 0; count++) tellNext();
            return count;
        }

        private void await(int sort, int i, int j, int deep) {
            int at = waitingCount * WAITING;
            if (at + WAITING > waiting.length) return;
            waiting[at] = sort;
            waiting[at + 1] = i;
            waiting[at + 2] = j;
            waiting[at + 3] = deep;
            waitingCount++;
        }

        private void tellNext() {
            waitingCount--;
            int at = waitingCount * WAITING;
            int sort = waiting[at];
            int i = waiting[at + 1];
            int j = waiting[at + 2];
            int deep = waiting[at + 3];
            int height = heights[(sort * PLACES + i) * PLACES + j];
            int row = count * FACTS;
            facts[row] = sort;
            facts[row + 1] = i;
            facts[row + 2] = j;
            facts[row + 3] = height;
            facts[row + WAYS] = NONE;
            facts[row + 5] = deep;
            branch(sort, i, j, height, deep + 1);
        }

        /** Lets the parts of a node await their turn; a node by a QUOTE has none. */
        private void branch(int sort, int i, int j, int height, int deep) {
            Rules rules = finder.rules;
            for (int p = 0; p < rules.productionCount; p++) {
                if (rules.productionSort[p] != sort || !findStarts(p, i, j, height)) continue;
                int from = waitingCount;
                int begin = i;
                for (int k = 0; k < rules.partCount[p]; k++) {
                    int part = p * PARTS + k;
                    int end = begin;
                    for (; end < j && !goesOn(p, k, begin, end, j, height); end++) continue;
                    if (rules.partKind[part] == Rules.SORT) await(rules.partValue[part], begin, end, deep);
                    begin = rules.isRule[p] ? text.runs[end] : end;
                }
                turnRound(from, waitingCount - 1);
                return;
            }
        }

        /** Whether a PRODUCTION goes from i to j by PIECES of less than a HEIGHT. */
        private boolean findStarts(int p, int i, int j, int height) {
            int parts = finder.rules.partCount[p];
            for (int k = parts - 1; k >= 0; k--) {
                starts[k] = 0;
                for (int begin = i; begin <= j; begin++) {
                    boolean good = false;
                    for (int end = begin; end <= j && !good; end++) good = goesOn(p, k, begin, end, j, height);
                    if (good) starts[k] |= 1 << begin;
                }
            }
            return parts == 0 ? i == j : (starts[0] >>> i & 1) != 0;
        }

        /** Whether the k-th EL can go from begin to end, and those behind it on to j. */
        private boolean goesOn(int p, int k, int begin, int end, int j, int height) {
            Rules rules = finder.rules;
            if (k + 1 == rules.partCount[p]) {
                if (end != j) return false;
            } else {
                int next = rules.isRule[p] ? text.runs[end] : end;
                if ((starts[k + 1] >>> next & 1) == 0) return false;
            }
            int part = p * PARTS + k;
            if ((finder.partEnds(text, part, begin, text.found) >>> end & 1) == 0) return false;
            if (rules.partKind[part] != Rules.SORT) return true;
            return heights[(rules.partValue[part] * PLACES + begin) * PLACES + end] < height;
        }

        /** The leftmost part is told next, so it must stand last. */
        private void turnRound(int first, int last) {
            for (int low = first, high = last; low < high; low++, high--) {
                for (int k = 0; k < WAITING; k++) {
                    int kept = waiting[low * WAITING + k];
                    waiting[low * WAITING + k] = waiting[high * WAITING + k];
                    waiting[high * WAITING + k] = kept;
                }
            }
        }

        /** What node() tells of the k-th node; its WAYS are counted when they are first asked for. */
        private int fact(int k, int what) {
            if (k < 0 || k >= count || what < 0 || what >= FACTS) return NONE;
            int row = k * FACTS;
            if (what == WAYS && facts[row + WAYS] == NONE) {
                facts[row + WAYS] = waysOf(facts[row], facts[row + 1], facts[row + 2]);
            }
            return facts[row + what];
        }

        private int sumOf(Law law, int many) {
            int sum = 0;
            for (int k = 0; k < many; k++) sum += law.valueFor(this, k);
            return sum;
        }
    }
}
