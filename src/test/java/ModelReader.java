import java.util.ArrayList;
import java.util.HashSet;
import java.util.List;
import java.util.Set;

/** Reads the texts of the model from the left; a fault is thrown where it is come to. */
final class ModelReader {
    static final class Fault extends RuntimeException {
        private static final long serialVersionUID = 1L;
        final int kind;
        final int place;

        Fault(int kind, int place) {
            this.kind = kind;
            this.place = place;
        }
    }

    final String text;
    int at;
    int nameAt;
    private int open;

    ModelReader(String text) {
        this.text = text;
    }

    /** The byte at this place, 0 behind the last one. */
    char here() {
        return at < text.length() ? text.charAt(at) : 0;
    }

    boolean ended() {
        next();
        return at == text.length();
    }

    char next() {
        while (at < text.length() && here() == ' ') at++;
        return here();
    }

    boolean nextIsOneOf(String signs) {
        next();
        return at < text.length() && signs.indexOf(here()) >= 0;
    }

    void want(char sign) {
        if (!nextIsOneOf("" + sign)) throw new Fault(1, at);
        at++;
    }

    int number(int most) {
        next();
        int from = at;
        while (at < text.length() && here() >= '0' && here() <= '9') at++;
        if (at == from) throw new Fault(1, from);
        if (new java.math.BigInteger(text.substring(from, at)).compareTo(java.math.BigInteger.valueOf(most)) > 0) {
            throw new Fault(2, from);
        }
        return Integer.parseInt(text.substring(from, at));
    }

    String name() {
        next();
        nameAt = at;
        while (at < text.length() && here() >= 'a' && here() <= 'z') at++;
        return text.substring(nameAt, at);
    }

    void open(int place) {
        open++;
        if (open > 6) throw new Fault(3, place);
    }

    void shut() {
        open--;
    }

    private static boolean isSign(char sign) {
        return sign >= 32 && sign <= 126;
    }

    private char sign(String barred) {
        if (at < text.length() && here() == '\\') {
            at++;
            if (at == text.length() || !isSign(here())) throw new Fault(1, at);
        } else if (at == text.length() || !isSign(here()) || barred.indexOf(here()) >= 0) {
            throw new Fault(1, at);
        }
        at++;
        return text.charAt(at - 1);
    }

    /** Of just as many signs, or of up to 8 if just is 0. */
    String word(int just) {
        want('\'');
        StringBuilder word = new StringBuilder();
        while (at < text.length() && here() != '\'') word.append(sign("'"));
        if (at == text.length() || word.length() == 0) throw new Fault(1, at);
        if (just == 0 ? word.length() > 8 : word.length() != just) throw new Fault(2, at);
        at++;
        return word.toString();
    }

    /** CE. */
    Set<Integer> classOf(List<Set<Integer>> ahead) {
        Set<Integer> signs = term(ahead);
        while (nextIsOneOf("|&-")) {
            char sign = here();
            at++;
            Set<Integer> other = term(ahead);
            if (sign == '|') signs.addAll(other);
            if (sign == '&') signs.retainAll(other);
            if (sign == '-') signs.removeAll(other);
        }
        return signs;
    }

    private Set<Integer> term(List<Set<Integer>> ahead) {
        if (!nextIsOneOf("~(#[")) throw new Fault(1, at);
        char sign = here();
        if (sign == '~' || sign == '(') open(at);
        at++;
        if (sign == '#') return new HashSet<>(ahead.get(number(ahead.size() - 1)));
        if (sign == '[') return brackets();
        Set<Integer> signs = sign == '~' ? term(ahead) : classOf(ahead);
        if (sign == '(') want(')');
        shut();
        if (sign == '(') return signs;
        Set<Integer> others = new HashSet<>();
        for (int k = 32; k < 127; k++) {
            if (!signs.contains(k)) others.add(k);
        }
        return others;
    }

    private Set<Integer> brackets() {
        Set<Integer> signs = new HashSet<>();
        while (here() != ']' || at == text.length()) {
            int first = sign("]- ");
            int last = first;
            if (at < text.length() && here() == '-') {
                at++;
                int place = at;
                last = sign("]- ");
                if (last < first) throw new Fault(2, place);
            }
            for (int k = first; k <= last; k++) signs.add(k);
        }
        at++;
        return signs;
    }

    /** E of a LAW, as a tree: an operator and its parts; a number; a name. */
    List<Object> law() {
        List<Object> sum = product();
        while (nextIsOneOf("+-")) {
            String sign = "" + here();
            at++;
            sum = List.of(sign, sum, product());
        }
        return sum;
    }

    private List<Object> product() {
        List<Object> product = unit();
        while (nextIsOneOf("*/%")) {
            String sign = "" + here();
            at++;
            product = List.of(sign, product, unit());
        }
        return product;
    }

    private List<Object> unit() {
        if (nextIsOneOf("0123456789")) return List.of("number", number(999));
        if (nextIsOneOf("(")) {
            open(at);
            at++;
            List<Object> inner = law();
            want(')');
            shut();
            return inner;
        }
        String name = name();
        int fact = List.of("sort", "from", "to", "high", "ways", "deep").indexOf(name);
        if (fact >= 0) return List.of("fact", fact);
        if (!name.equals("least") && !name.equals("most")) throw new Fault(1, nameAt);
        open(nameAt);
        want('[');
        List<Object> first = law();
        want(',');
        List<Object> second = law();
        want(']');
        shut();
        return List.of(name, first, second);
    }

    /** Steps, each a name, a number, and a number, a word or steps; those that are read are counted. */
    List<Object[]> steps(int[] counted) {
        List<Object[]> steps = new ArrayList<>();
        while (!ended() && here() != ']') {
            steps.add(step());
            want(';');
            if (counted != null) counted[0]++;
        }
        return steps;
    }

    private Object[] step() {
        String name = name();
        if (name.equals("type")) return new Object[] {name, number(24), word(0)};
        if (name.equals("cut") || name.equals("swap")) return new Object[] {name, number(24), number(24)};
        if (!name.equals("again")) throw new Fault(1, nameAt);
        open(nameAt);
        int times = number(40);
        want('[');
        List<Object[]> within = steps(null);
        want(']');
        shut();
        return new Object[] {name, times, within};
    }
}
