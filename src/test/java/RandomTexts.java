import java.util.ArrayList;
import java.util.List;
import java.util.Random;

/** Draws grammars, laws and works: most are without a fault, some are not. */
final class RandomTexts {
    private static final String[] ALPHABETS = {"ab", "abc", "ab<>!", "ab ,", "abcd'\\]- ", "xy<>\"!", "a(b)!", "<>(){}!ab"};

    private final Random random;
    private String alphabet = "ab";
    /** How long a text may be that the model still looks at in short time. */
    int longest;
    int sorts;
    private int classes;
    private int quotePercent;

    RandomTexts(Random random) {
        this.random = random;
    }

    private boolean chance(int percent) {
        return random.nextInt(100) < percent;
    }

    private String oneOf(String... texts) {
        return texts[random.nextInt(texts.length)];
    }

    int sign() {
        return alphabet.charAt(random.nextInt(alphabet.length()));
    }

    private String blanks() {
        return oneOf("", "", "", "", " ", "  ");
    }

    private String number(int most) {
        return blanks() + (chance(3) ? "0" : "") + (chance(1) ? most + 1 : random.nextInt(most + 1));
    }

    private String sort() {
        return number(sorts - 1);
    }

    private String classNamed() {
        return blanks() + "#" + number(classes - 1);
    }

    private String word(int most) {
        StringBuilder word = new StringBuilder(blanks() + "'");
        for (int k = random.nextInt(most) + 1; k > 0; k--) word.append(escaped((char) sign(), "'\\"));
        return word + "'";
    }

    private String escaped(char sign, String always) {
        return always.indexOf(sign) >= 0 || chance(2) ? "\\" + sign : "" + sign;
    }

    String grammar() {
        alphabet = oneOf(ALPHABETS);
        sorts = 1 + random.nextInt(4);
        classes = 0;
        // Many ways and long texts together are too much for the model.
        longest = 8 * (1 + random.nextInt(3));
        StringBuilder text = new StringBuilder();
        for (int k = random.nextInt(4); k > 0; k--) {
            text.append(blanks()).append("class").append(classOf(0)).append(";");
            classes++;
        }
        for (int sort = 0; sort < sorts; sort++) {
            text.append(oneOf("rule", "token")).append(sort).append(classes > 0 && chance(60) ? classNamed() : word(2)).append(";");
        }
        quotePercent = chance(50) ? 5 : 40;
        for (int k = random.nextInt(9); k > 0; k--) text.append(blanks()).append(clause()).append(blanks()).append(";");
        text.append(blanks());
        return mangled(text, 15);
    }

    private String clause() {
        if (chance(quotePercent)) return "quote" + sort() + " " + sort() + brackets();
        int kind = random.nextInt(100);
        if (kind < 75) {
            StringBuilder text = new StringBuilder(oneOf("rule", "token") + sort());
            for (int k = random.nextInt(chance(50) ? 3 : 5); k > 0; k--) text.append(part());
            return text.toString();
        }
        if (kind < 85 && sorts > 1) return chance(10) ? "drop" + sort() + " " + sort() : "drop " + (sorts - 1) + blanks() + " 0";
        if (kind < 94 && classes > 0) return "not" + sort() + classNamed();
        return classes > 0 ? "lay" + classNamed() : "rule" + sort();
    }

    private String part() {
        if (classes > 0 && chance(35)) return classNamed();
        return chance(55) ? blanks() + "@" + sort() : word(2);
    }

    private String brackets() {
        return blanks() + oneOf("'<>!'", "'()!'", "'{}!'", "'\"\"!'", "'ab!'", "'<)!'", "'aab'", "'(>\\''");
    }

    private String classOf(int depth) {
        StringBuilder text = new StringBuilder(term(depth));
        while (chance(30)) text.append(blanks()).append(oneOf("|", "&", "-")).append(term(depth));
        return text.toString();
    }

    private String term(int depth) {
        int kind = random.nextInt(100);
        if (depth < 8 && kind < 12) return blanks() + "~" + term(depth + 1);
        if (depth < 8 && kind < 24) return blanks() + "(" + classOf(depth + 1) + blanks() + ")";
        if (classes > 0 && kind < 45) return classNamed();
        StringBuilder text = new StringBuilder(blanks() + "[");
        for (int k = random.nextInt(4); k > 0; k--) {
            char first = (char) sign();
            char last = (char) sign();
            text.append(escaped(chance(99) && last < first ? last : first, "\\]- "));
            if (chance(30)) text.append('-').append(escaped(last < first ? first : last, "\\]- "));
        }
        return text + "]";
    }

    String law() {
        return mangled(new StringBuilder(sum(0)), 15);
    }

    private String sum(int depth) {
        StringBuilder text = new StringBuilder(product(depth));
        while (chance(30)) text.append(blanks()).append(oneOf("+", "-")).append(product(depth));
        return text.toString();
    }

    private String product(int depth) {
        StringBuilder text = new StringBuilder(unit(depth));
        while (chance(30)) text.append(blanks()).append(oneOf("*", "/", "%")).append(unit(depth));
        return text.toString();
    }

    private String unit(int depth) {
        int kind = random.nextInt(100);
        if (kind < 30) return number(chance(70) ? 9 : 999);
        if (kind < 75 || depth > 7) return blanks() + oneOf("sort", "from", "to", "high", "ways", "deep");
        if (kind < 88) return blanks() + "(" + sum(depth + 1) + blanks() + ")";
        return blanks() + oneOf("least", "most") + blanks() + "[" + sum(depth + 1) + blanks() + "," + sum(depth + 1) + "]";
    }

    /** Steps by which a text of a length becomes mostly one that is of some sort, else one of some signs. */
    String work(int length, ModelGrammar grammar) {
        StringBuilder text = new StringBuilder();
        String best = "";
        for (int tries = 0; tries < 12; tries++) {
            String other = derived(grammar, random.nextInt(sorts), 0);
            if (other != null && other.length() <= longest && other.length() >= best.length()) best = other;
        }
        if (length > 0 && chance(80)) text.append("cut 0 ").append(length).append(";");
        for (int from = 0; from < best.length(); from += 8) {
            text.append("type").append(blanks()).append(from).append(blanks()).append("'");
            for (int k = from; k < Math.min(from + 8, best.length()); k++) text.append(escaped(best.charAt(k), "'\\"));
            text.append("';");
        }
        if (best.isEmpty() || chance(20)) text.append("type 0").append(word(8)).append(";");
        if (chance(25)) text.append(steps(0));
        return mangled(text, 5);
    }

    /** A text that is of a sort, or nearly so; null if none was come to. */
    private String derived(ModelGrammar grammar, int sort, int depth) {
        for (int tries = 0; tries < 4 && depth < 10; tries++) {
            int k = random.nextInt(grammar.productions.size() + grammar.quotes.size() + 1);
            if (k == grammar.productions.size() + grammar.quotes.size()) continue;
            boolean quoted = k >= grammar.productions.size();
            String text = null;
            if (quoted) {
                ModelGrammar.Quote quote = grammar.quotes.get(k - grammar.productions.size());
                if (quote.sort() == sort) text = quoted(grammar, quote, depth);
            } else if (grammar.productions.get(k).sort() == sort) {
                text = derived(grammar, grammar.productions.get(k), depth);
            }
            if (text != null && text.length() <= 24) return text;
        }
        return null;
    }

    private String quoted(ModelGrammar grammar, ModelGrammar.Quote quote, int depth) {
        String body = chance(15) ? word(3).trim() : derived(grammar, quote.of(), depth + 1);
        if (body == null) return null;
        StringBuilder text = new StringBuilder().append(quote.open());
        for (char sign : body.toCharArray()) {
            if ((sign == quote.close() || sign == quote.escape()) && !chance(3)) text.append(quote.escape());
            text.append(sign);
        }
        return text.append(quote.close()).toString();
    }

    private String derived(ModelGrammar grammar, ModelGrammar.Production production, int depth) {
        StringBuilder text = new StringBuilder();
        for (ModelGrammar.Part part : production.parts()) {
            if (text.length() > 0 && production.rule() && grammar.lay >= 0 && chance(20)) text.append(signOf(grammar, grammar.lay));
            String more = part.word();
            if (part.kind() == '#') more = signOf(grammar, part.value());
            if (part.kind() == '@') more = derived(grammar, part.value(), depth + 1);
            if (more == null) return null;
            text.append(more);
        }
        return text.toString();
    }

    private String signOf(ModelGrammar grammar, int k) {
        List<Integer> signs = new ArrayList<>(grammar.classes.get(k));
        if (signs.isEmpty()) return "";
        return "" + (char) (int) signs.get(chance(60) ? 0 : random.nextInt(signs.size()));
    }

    private String steps(int depth) {
        StringBuilder text = new StringBuilder();
        for (int k = random.nextInt(3); k > 0; k--) text.append(blanks()).append(step(depth)).append(blanks()).append(";");
        return text.toString();
    }

    private String step(int depth) {
        int kind = random.nextInt(100);
        if (kind < 40) return "type" + number(chance(20) ? 24 : 4) + word(4);
        if (kind < 60) return "cut" + number(9) + " " + number(3);
        if (kind < 80 || depth > 3) return "swap" + number(9) + " " + number(9);
        return "again " + oneOf("0", "1", "2", "3", "40") + blanks() + "[" + steps(depth + 1) + blanks() + "]";
    }

    /** In some of a hundred times with a byte too much, one too few, or another one. */
    private String mangled(StringBuilder text, int percent) {
        while (chance(percent)) {
            int at = random.nextInt(text.length() + 1);
            String bytes = "'\\]-[ #@~()|&;0123456789azle,\u0000\u001f\u007f\u00ff";
            if (chance(40) && at < text.length()) text.deleteCharAt(at);
            else if (chance(70)) text.insert(at, bytes.charAt(random.nextInt(bytes.length())));
            else text.setLength(at);
        }
        return text.toString();
    }
}
