import java.util.ArrayDeque;
import java.util.ArrayList;
import java.util.Collections;
import java.util.Deque;
import java.util.HashSet;
import java.util.List;
import java.util.NoSuchElementException;
import java.util.Set;
import java.util.TreeSet;

/** The document read a second time, done in the plainest way, with the face of PrunedParses, to hold this against. */
public final class Model {
    private record Image(String text, List<String> works) { }

    private final StringBuilder tape = new StringBuilder();
    ModelGrammar grammar = new ModelGrammar();
    private List<Object> law = List.of("number", 1);
    private String text = "";
    private List<String> works = new ArrayList<>();
    private final Deque<Image> images = new ArrayDeque<>();
    private int fault = -1;
    private int faulted = -1;
    private int refused;
    private int begun;
    private int done;
    private int refusedNow;
    private int missing;
    private int arguments;

    public int feed(int a, int b, int c, int d, int e) {
        if (tape.length() > 580) return -1;
        for (int number : new int[] {a, b, c, d, e}) {
            for (int shift = 24; shift >= 0; shift -= 8) tape.append((char) (number >> shift & 255));
        }
        return tape.length();
    }

    private ModelReader taken(int n) {
        ModelReader reader = new ModelReader(tape.substring(0, n));
        tape.setLength(0);
        fault = -1;
        faulted = -1;
        return reader;
    }

    private int fail(ModelReader.Fault thrown, int clause) {
        fault = thrown.place;
        faulted = clause;
        return thrown.kind - 10;
    }

    public int grammar(int n) {
        range(n, 0, tape.length());
        ModelGrammar read = new ModelGrammar();
        try {
            read.read(taken(n).text);
        } catch (ModelReader.Fault thrown) {
            return fail(thrown, read.clauses);
        }
        grammar = read;
        law = List.of("number", 1);
        text = "";
        works.clear();
        images.clear();
        refused = 0;
        return grammar.productions.size();
    }

    public int law(int n) {
        range(n, 0, Math.min(150, tape.length()));
        ModelReader reader = taken(n);
        try {
            List<Object> read = reader.law();
            if (!reader.ended()) throw new ModelReader.Fault(1, reader.at);
            law = read;
        } catch (ModelReader.Fault thrown) {
            return fail(thrown, -1);
        }
        return 1;
    }

    public int work(int n) {
        range(n, 0, Math.min(150, tape.length()));
        ModelReader reader = taken(n);
        if (works.size() == 16) return -20;
        int[] counted = new int[1];
        List<Object[]> steps;
        try {
            steps = reader.steps(counted);
            if (!reader.ended()) throw new ModelReader.Fault(1, reader.at);
        } catch (ModelReader.Fault thrown) {
            return fail(thrown, counted[0]);
        }
        works.add(text);
        begun = 0;
        done = 0;
        refusedNow = 0;
        perform(steps);
        refused = refusedNow;
        return done;
    }

    @SuppressWarnings("unchecked")
    private void perform(List<Object[]> steps) {
        for (Object[] step : steps) {
            if (begun == 200) return;
            begun++;
            if (step[0].equals("again")) {
                for (int time = 0; time < (int) step[1]; time++) perform((List<Object[]>) step[2]);
                continue;
            }
            String after = edited(text, (String) step[0], (int) step[1], step[2]);
            if (after == null) refusedNow++;
            else done++;
            if (after != null) text = after;
        }
    }

    /** The text behind a step, null if that is refused. */
    private static String edited(String text, String name, int place, Object other) {
        if (name.equals("type")) {
            if (place > text.length() || text.length() + ((String) other).length() > 24) return null;
            return text.substring(0, place) + other + text.substring(place);
        }
        int number = (int) other;
        if (name.equals("cut")) {
            if (number == 0 || place + number > text.length()) return null;
            return text.substring(0, place) + text.substring(place + number);
        }
        if (place >= text.length() || number >= text.length() || text.charAt(place) == text.charAt(number)) return null;
        char[] signs = text.toCharArray();
        signs[place] = text.charAt(number);
        signs[number] = text.charAt(place);
        return new String(signs);
    }

    public int fault() {
        return fault;
    }

    public int faulted() {
        return faulted;
    }

    public int undo() {
        if (works.isEmpty()) return -1;
        text = works.remove(works.size() - 1);
        refused = 0;
        return works.size();
    }

    public int image() {
        if (images.size() == 3) return -1;
        images.push(new Image(text, new ArrayList<>(works)));
        return images.size();
    }

    public int restore() {
        if (images.isEmpty()) return -1;
        Image image = images.pop();
        text = image.text;
        works = image.works;
        refused = 0;
        return images.size();
    }

    public int status(int what) {
        return what == 0 ? missing : what == 1 ? arguments : -1;
    }

    public int count(int what) {
        return what == 0 ? images.size() : what == 1 ? tape.length() : what == 2 ? works.size() : -1;
    }

    private void range(int value, int least, int most) {
        if (value >= least && value <= most) return;
        arguments++;
        throw new IllegalArgumentException();
    }

    private void one(int k, int many) {
        if (k >= 0 && k < many) return;
        missing++;
        throw new NoSuchElementException();
    }

    private ModelText look() {
        return grammar.look(text, 0);
    }

    private static int bits(Iterable<Integer> numbers) {
        int bits = 0;
        for (int number : numbers) bits |= 1 << number;
        return bits;
    }

    public int told(int what) {
        range(what, 0, 9);
        return switch (what) {
            case 0 -> grammar.classes.size();
            case 1 -> grammar.productions.size();
            case 2 -> grammar.quotes.size();
            case 3 -> grammar.nots.size();
            case 4 -> grammar.drops.size();
            case 5 -> grammar.lay;
            case 6 -> java.util.Arrays.stream(grammar.layer).max().getAsInt();
            case 7 -> bits(look().whole());
            case 8 -> text.length();
            default -> refused;
        };
    }

    private static int some(Set<Integer> signs, int what) {
        if (what == 0) return signs.size();
        if (signs.isEmpty()) return what == 3 ? 0 : -1;
        if (what == 1) return Collections.min(signs);
        if (what == 2) return Collections.max(signs);
        return (int) signs.stream().filter(sign -> !signs.contains(sign + 1)).count();
    }

    public int group(int k, int what) {
        one(k, grammar.classes.size());
        range(what, 0, 3);
        return some(grammar.classes.get(k), what);
    }

    public boolean holds(int k, int sign) {
        one(k, grammar.classes.size());
        range(sign, 32, 126);
        return grammar.classes.get(k).contains(sign);
    }

    public int beside(int k, int other) {
        one(k, grammar.classes.size());
        one(other, grammar.classes.size());
        Set<Integer> first = grammar.classes.get(k);
        Set<Integer> second = grammar.classes.get(other);
        if (first.equals(second)) return 1;
        if (Collections.disjoint(first, second)) return 0;
        return second.containsAll(first) ? 2 : first.containsAll(second) ? 3 : 4;
    }

    public int production(int k, int what) {
        one(k, grammar.productions.size());
        range(what, 0, 2);
        ModelGrammar.Production production = grammar.productions.get(k);
        return what == 0 ? production.sort() : what == 2 ? production.parts().size() : production.rule() ? 1 : 0;
    }

    public int sort(int sort, int what) {
        range(sort, 0, 7);
        range(what, 0, 5);
        return switch (what) {
            case 0 -> grammar.layer[sort];
            case 1 -> grammar.empty.contains(sort) ? 1 : 0;
            case 2, 3 -> some(grammar.begins(sort), what - 2);
            case 4 -> bits(grammar.uses(sort));
            default -> bits(grammar.needs(sort));
        };
    }

    public boolean begins(int sort, int sign) {
        range(sort, 0, 7);
        range(sign, 32, 126);
        return grammar.begins(sort).contains(sign);
    }

    public int sign(int place) {
        one(place, text.length());
        return text.charAt(place);
    }

    public int run(int place) {
        one(place, text.length() + 1);
        return look().run[place];
    }

    private void piece(int sort, int i, int j) {
        range(sort, 0, 7);
        range(i, 0, text.length());
        range(j, i, text.length());
    }

    public boolean is(int sort, int i, int j) {
        piece(sort, i, j);
        return look().isOf(sort, i, j);
    }

    public int ends(int sort, int i) {
        piece(sort, i, text.length());
        Set<Integer> ends = new HashSet<>();
        for (int j = i; j <= text.length(); j++) {
            if (look().isOf(sort, i, j)) ends.add(j);
        }
        return bits(ends);
    }

    public int ways(int sort, int i, int j) {
        piece(sort, i, j);
        return look().ways(sort, i, j);
    }

    public int height(int sort, int i, int j) {
        piece(sort, i, j);
        return look().height(sort, i, j);
    }

    public int nodes(int sort, int i, int j) {
        piece(sort, i, j);
        return look().tree(sort, i, j).size();
    }

    public int node(int sort, int k, int what) {
        range(sort, 0, 7);
        range(k, 0, Integer.MAX_VALUE);
        range(what, 0, 5);
        List<int[]> nodes = look().tree(sort, 0, text.length());
        return k < nodes.size() ? nodes.get(k)[what] : -1;
    }

    public int worth(int sort) {
        range(sort, 0, 7);
        int sum = 0;
        for (int[] node : look().tree(sort, 0, text.length())) sum += valueOf(law, node);
        return sum;
    }

    @SuppressWarnings("unchecked")
    private static int valueOf(List<Object> law, int[] node) {
        String name = (String) law.get(0);
        if (name.equals("number")) return (int) law.get(1);
        if (name.equals("fact")) return node[(int) law.get(1)];
        int first = valueOf((List<Object>) law.get(1), node);
        int second = valueOf((List<Object>) law.get(2), node);
        return switch (name) {
            case "+" -> first + second;
            case "-" -> first - second;
            case "*" -> first * second;
            case "/" -> second == 0 ? 0 : first / second;
            case "%" -> second == 0 ? 0 : first % second;
            case "least" -> Math.min(first, second);
            default -> Math.max(first, second);
        };
    }

    public int pieces(int sort) {
        range(sort, 0, 7);
        return look().pieces.get(sort).size();
    }

    public int commonest(int what) {
        range(what, 0, 1);
        int best = 0;
        for (int sort = 7; sort >= 0; sort--) {
            if (pieces(sort) >= pieces(best)) best = sort;
        }
        return what == 0 ? best : pieces(best);
    }

    public int wrong(int sort, int k, int what) {
        range(sort, 0, 7);
        range(k, 0, Integer.MAX_VALUE);
        range(what, 0, 2);
        List<int[]> wrongs = look().wrongs(sort);
        return k < wrongs.size() ? wrongs.get(k)[what] : -1;
    }

    public int body(int quote, int place) {
        one(quote, grammar.quotes.size());
        one(place, text.length());
        String body = look().body(grammar.quotes.get(quote), place);
        return body == null ? -1 : body.length();
    }

    public int inside(int quote, int place, int k) {
        int length = body(quote, place);
        range(k, 0, Integer.MAX_VALUE);
        return k < length ? look().body(grammar.quotes.get(quote), place).charAt(k) : -1;
    }

    public int fits(int sort, int place, int what) {
        one(place, text.length());
        range(sort, 0, 7);
        range(what, 0, 2);
        Set<Integer> fitting = new TreeSet<>();
        for (char sign = 32; sign < 127; sign++) {
            String other = text.substring(0, place) + sign + text.substring(place + 1);
            if (grammar.look(other, 0).whole().contains(sort)) fitting.add((int) sign);
        }
        if (what < 2) return some(fitting, what);
        return fitting.isEmpty() ? -1 : grammar.classes.indexOf(new HashSet<>(fitting));
    }

    /** The text behind a year; in counted how many edits were refused, and how often it was of sort 0. */
    private String yearOf(int seed, int n, int[] counted) {
        String after = text;
        int[] draws = {seed};
        for (int time = 0; time < n; time++) {
            int kind = draw(draws, 4);
            int place = draw(draws, kind == 3 ? 24 : after.length() + 1);
            String next = switch (kind) {
                case 2 -> edited(after, "cut", place, 1);
                case 3 -> edited(after, "swap", place, draw(draws, 24));
                default -> edited(after, "type", place, "" + (char) (32 + draw(draws, 95)));
            };
            if (next == null) counted[0]++;
            else after = next;
            if (grammar.look(after, 0).whole().contains(0)) counted[1]++;
        }
        return after;
    }

    private static int draw(int[] draws, int most) {
        draws[0] = draws[0] * 1103515245 + 12345;
        return (draws[0] >> 16 & 0x7fff) % most;
    }

    public int year(int seed, int n, int what) {
        range(n, 1, 24);
        range(what, 0, 3);
        int[] counted = new int[2];
        String after = yearOf(seed, n, counted);
        return what == 0 ? after.length() : what == 1 ? bits(grammar.look(after, 0).whole()) : counted[what - 2];
    }

    public int span(int seed, int many, int n, int what, int sort) {
        range(many, 1, 4);
        range(n, 1, 24);
        range(what, 0, 2);
        range(sort, 0, 7);
        List<Integer> lengths = new ArrayList<>();
        int fitting = 0;
        for (int k = 0; k < many; k++) {
            String after = yearOf(seed + k, n, new int[2]);
            lengths.add(after.length());
            if (grammar.look(after, 0).whole().contains(sort)) fitting++;
        }
        return what == 0 ? Collections.min(lengths) : what == 1 ? Collections.max(lengths) : fitting;
    }
}
