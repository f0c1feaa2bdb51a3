import java.util.ArrayList;
import java.util.HashMap;
import java.util.HashSet;
import java.util.List;
import java.util.Map;
import java.util.Set;
import java.util.TreeSet;

/** A grammar of the model, and the texts that were looked at by it. */
final class ModelGrammar {
    /** A part is of kind '#' (value a class), '@' (value a sort) or '\'' (a word). */
    record Part(char kind, int value, String word) { }

    record Production(int sort, boolean rule, List<Part> parts) { }

    record Quote(int sort, int of, char open, char close, char escape) { }

    final List<Set<Integer>> classes = new ArrayList<>();
    final List<Production> productions = new ArrayList<>();
    final List<Quote> quotes = new ArrayList<>();
    final List<int[]> nots = new ArrayList<>();
    final List<int[]> drops = new ArrayList<>();
    int lay = -1;
    /** How many clauses were read; with a fault the number of its clause. */
    int clauses;
    final int[] layer = new int[8];
    final Set<Integer> empty = new HashSet<>();
    private final Map<String, ModelText> texts = new HashMap<>();

    /** Throws the fault, if there is one. */
    void read(String text) {
        ModelReader reader = new ModelReader(text);
        List<int[]> dropPlaces = new ArrayList<>();
        while (!reader.ended()) {
            int place = reader.at;
            String name = reader.name();
            checkRoom(name, place);
            if (name.equals("drop")) dropPlaces.add(new int[] {place, clauses});
            readClause(name, reader);
            reader.want(';');
            clauses++;
        }
        for (int k = 0; k < drops.size(); k++) {
            if (!needs(drops.get(k)[1]).contains(drops.get(k)[0])) continue;
            clauses = dropPlaces.get(k)[1];
            throw new ModelReader.Fault(4, dropPlaces.get(k)[0]);
        }
        findLayers();
        findEmpty();
    }

    private void checkRoom(String name, int place) {
        boolean room = switch (name) {
            case "class" -> classes.size() < 8;
            case "rule", "token" -> productions.size() < 20;
            case "quote" -> quotes.size() < 4;
            case "not" -> nots.size() < 8;
            case "drop" -> drops.size() < 8;
            case "lay" -> true;
            default -> throw new ModelReader.Fault(1, place);
        };
        if (!room || clauses == 60) throw new ModelReader.Fault(3, place);
    }

    private void readClause(String name, ModelReader reader) {
        switch (name) {
            case "class" -> classes.add(reader.classOf(classes));
            case "quote" -> readQuote(reader);
            case "not" -> nots.add(new int[] {reader.number(7), classNamed(reader)});
            case "lay" -> lay = classNamed(reader);
            case "drop" -> {
                int sort = reader.number(7);
                reader.next();
                int place = reader.at;
                drops.add(new int[] {sort, reader.number(7)});
                if (drops.get(drops.size() - 1)[1] == sort) throw new ModelReader.Fault(2, place);
            }
            default -> productions.add(new Production(reader.number(7), name.equals("rule"), parts(reader)));
        }
    }

    private int classNamed(ModelReader reader) {
        reader.want('#');
        return reader.number(classes.size() - 1);
    }

    private List<Part> parts(ModelReader reader) {
        List<Part> parts = new ArrayList<>();
        while (reader.nextIsOneOf("#@'")) {
            if (parts.size() == 4) throw new ModelReader.Fault(3, reader.at);
            char kind = reader.here();
            if (kind != '\'') reader.at++;
            if (kind == '#') parts.add(new Part(kind, reader.number(classes.size() - 1), ""));
            if (kind == '@') parts.add(new Part(kind, reader.number(7), ""));
            if (kind == '\'') parts.add(new Part(kind, 0, reader.word(0)));
        }
        return parts;
    }

    private void readQuote(ModelReader reader) {
        int sort = reader.number(7);
        int of = reader.number(7);
        reader.next();
        int place = reader.at;
        String word = reader.word(3);
        if (word.indexOf(word.charAt(2)) < 2) throw new ModelReader.Fault(2, place);
        quotes.add(new Quote(sort, of, word.charAt(0), word.charAt(1), word.charAt(2)));
    }

    Set<Integer> uses(int sort) {
        Set<Integer> uses = new HashSet<>();
        for (Production production : productions) {
            for (Part part : production.parts) {
                if (production.sort == sort && part.kind == '@') uses.add(part.value);
            }
        }
        for (Quote quote : quotes) {
            if (quote.sort == sort) uses.add(quote.of);
        }
        return uses;
    }

    Set<Integer> dropped(int sort) {
        Set<Integer> dropped = new HashSet<>();
        for (int[] drop : drops) {
            if (drop[0] == sort) dropped.add(drop[1]);
        }
        return dropped;
    }

    Set<Integer> needs(int sort) {
        Set<Integer> needs = new HashSet<>();
        List<Integer> open = new ArrayList<>(List.of(sort));
        while (!open.isEmpty()) {
            int next = open.remove(open.size() - 1);
            Set<Integer> more = uses(next);
            more.addAll(dropped(next));
            for (int other : more) {
                if (needs.add(other)) open.add(other);
            }
        }
        return needs;
    }

    private void findLayers() {
        boolean more = true;
        while (more) {
            more = false;
            for (int sort = 0; sort < 8; sort++) {
                int least = 0;
                for (int other : uses(sort)) least = Math.max(least, layer[other]);
                for (int other : dropped(sort)) least = Math.max(least, layer[other] + 1);
                more |= least != layer[sort];
                layer[sort] = least;
            }
        }
    }

    private boolean canBeEmpty(Part part) {
        return part.kind == '@' && empty.contains(part.value);
    }

    private void findEmpty() {
        boolean more = true;
        while (more) {
            more = false;
            for (Production production : productions) {
                if (production.parts.stream().allMatch(this::canBeEmpty)) more |= empty.add(production.sort);
            }
        }
    }

    Set<Integer> begins(int sort) {
        Set<Integer> signs = new TreeSet<>();
        Set<Integer> seen = new HashSet<>();
        List<Integer> open = new ArrayList<>(List.of(sort));
        while (!open.isEmpty()) {
            int next = open.remove(open.size() - 1);
            if (!seen.add(next)) continue;
            for (Production production : productions) {
                if (production.sort != next) continue;
                for (Part part : production.parts) {
                    if (part.kind == '#') signs.addAll(classes.get(part.value));
                    if (part.kind == '\'') signs.add((int) part.word.charAt(0));
                    if (part.kind == '@') open.add(part.value);
                    if (!canBeEmpty(part)) break;
                }
            }
            for (Quote quote : quotes) {
                if (quote.sort == next) signs.add((int) quote.open);
            }
        }
        return signs;
    }

    ModelText look(String text, int within) {
        if (texts.size() > 5000) texts.clear();
        String key = within + text;
        ModelText known = texts.get(key);
        if (known == null) {
            known = new ModelText(this, text, within);
            texts.put(key, known);
        }
        return known;
    }
}
