import java.util.ArrayList;
import java.util.HashMap;
import java.util.HashSet;
import java.util.List;
import java.util.Map;
import java.util.Set;

/** A text of the model, and which pieces of it are of which sort; within tells in how many bodies it lies. */
final class ModelText {
    final ModelGrammar grammar;
    final String text;
    final int within;
    final int[] run;
    /** Of each sort its pieces, as i * 32 + j. */
    final List<Set<Integer>> pieces = new ArrayList<>();
    private List<Map<Integer, Integer>> heights;

    ModelText(ModelGrammar grammar, String text, int within) {
        this.grammar = grammar;
        this.text = text;
        this.within = within;
        run = new int[text.length() + 1];
        for (int place = 0; place <= text.length(); place++) {
            run[place] = place;
            while (run[place] < text.length() && isBlank(text.charAt(run[place]))) run[place]++;
        }
        for (int sort = 0; sort < 8; sort++) pieces.add(new HashSet<>());
        for (int layer = 0; layer < 8; layer++) findLayer(layer);
    }

    private boolean isBlank(int sign) {
        return grammar.lay >= 0 && grammar.classes.get(grammar.lay).contains(sign);
    }

    private void findLayer(int layer) {
        boolean more = true;
        while (more) {
            more = false;
            for (int sort = 0; sort < 8; sort++) {
                for (int i = 0; grammar.layer[sort] == layer && i <= text.length(); i++) {
                    for (int j = i; j <= text.length(); j++) {
                        if (!isOf(sort, i, j) && mayBe(sort, i, j) && rows(sort, i, j) > 0) {
                            more = true;
                            pieces.get(sort).add(i * 32 + j);
                        }
                    }
                }
            }
        }
    }

    boolean isOf(int sort, int i, int j) {
        return pieces.get(sort).contains(i * 32 + j);
    }

    private boolean mayBe(int sort, int i, int j) {
        for (int[] not : grammar.nots) {
            if (not[0] == sort && j < text.length() && grammar.classes.get(not[1]).contains((int) text.charAt(j))) return false;
        }
        for (int other : grammar.dropped(sort)) {
            if (isOf(other, i, j)) return false;
        }
        return true;
    }

    /** By how many rows of places, and quotes. */
    private int rows(int sort, int i, int j) {
        int many = 0;
        for (ModelGrammar.Production production : grammar.productions) {
            if (production.sort() == sort) many += rowsOf(production, i, j).size();
        }
        for (ModelGrammar.Quote quote : grammar.quotes) {
            if (quote.sort() == sort && goodEnd(quote, i) == j) many++;
        }
        return many;
    }

    int ways(int sort, int i, int j) {
        return isOf(sort, i, j) ? Math.min(9999, rows(sort, i, j)) : 0;
    }

    /** The rows of places (begin and end of each part) by which a production goes from i to j. */
    private List<int[]> rowsOf(ModelGrammar.Production production, int i, int j) {
        List<int[]> rows = new ArrayList<>();
        int many = production.parts().size();
        if (many == 0 && i == j) rows.add(new int[0]);
        if (many > 0) extend(production, 0, i, j, new int[many * 2], rows);
        return rows;
    }

    private void extend(ModelGrammar.Production production, int k, int begin, int j, int[] row, List<int[]> rows) {
        boolean last = k + 1 == production.parts().size();
        for (int end = begin; end <= j; end++) {
            if (last && end < j || !isPart(production.parts().get(k), begin, end)) continue;
            row[k * 2] = begin;
            row[k * 2 + 1] = end;
            if (last) rows.add(row.clone());
            else extend(production, k + 1, production.rule() ? run[end] : end, j, row, rows);
        }
    }

    private boolean isPart(ModelGrammar.Part part, int begin, int end) {
        if (part.kind() == '@') return isOf(part.value(), begin, end);
        if (part.kind() == '\'') return text.substring(begin, end).equals(part.word());
        return end == begin + 1 && grammar.classes.get(part.value()).contains((int) text.charAt(begin));
    }

    /** The body, and behind it a sign whose number is where the quote ends; null if there is none. */
    private String scan(ModelGrammar.Quote quote, int place) {
        if (place >= text.length() || text.charAt(place) != quote.open()) return null;
        StringBuilder body = new StringBuilder();
        for (int at = place + 1; at < text.length(); at++) {
            char sign = text.charAt(at);
            if (sign == quote.close()) return body.toString() + (char) (at + 1);
            if (sign == quote.escape()) {
                at++;
                if (at == text.length()) return null;
                sign = text.charAt(at);
            }
            body.append(sign);
        }
        return null;
    }

    String body(ModelGrammar.Quote quote, int place) {
        String scanned = scan(quote, place);
        return scanned == null ? null : scanned.substring(0, scanned.length() - 1);
    }

    private boolean bodyIsGood(ModelGrammar.Quote quote, int place) {
        return within < 3 && grammar.look(body(quote, place), within + 1).whole().contains(quote.of());
    }

    /** Where a quote ends whose body is as it must be; -1 if there is none. */
    private int goodEnd(ModelGrammar.Quote quote, int place) {
        String scanned = scan(quote, place);
        return scanned == null || !bodyIsGood(quote, place) ? -1 : scanned.charAt(scanned.length() - 1);
    }

    Set<Integer> whole() {
        Set<Integer> whole = new HashSet<>();
        for (int sort = 0; sort < 8; sort++) {
            if (isOf(sort, 0, text.length())) whole.add(sort);
        }
        return whole;
    }

    /** The height by a row: what is not known yet is very high. */
    private int heightBy(ModelGrammar.Production production, int[] row) {
        int height = 0;
        for (int k = 0; k < production.parts().size(); k++) {
            ModelGrammar.Part part = production.parts().get(k);
            if (part.kind() == '@') height = Math.max(height, heights.get(part.value()).getOrDefault(row[k * 2] * 32 + row[k * 2 + 1], 1000000));
        }
        return height + 1;
    }

    private int leastHeight(int sort, int i, int j) {
        for (ModelGrammar.Quote quote : grammar.quotes) {
            if (quote.sort() == sort && goodEnd(quote, i) == j) return 1;
        }
        int least = 1000000;
        for (ModelGrammar.Production production : grammar.productions) {
            if (production.sort() != sort) continue;
            for (int[] row : rowsOf(production, i, j)) least = Math.min(least, heightBy(production, row));
        }
        return least;
    }

    int height(int sort, int i, int j) {
        if (!isOf(sort, i, j)) return -1;
        findHeights();
        return heights.get(sort).get(i * 32 + j);
    }

    private void findHeights() {
        if (heights != null) return;
        heights = new ArrayList<>();
        for (int sort = 0; sort < 8; sort++) heights.add(new HashMap<>());
        boolean more = true;
        while (more) {
            more = false;
            for (int sort = 0; sort < 8; sort++) {
                for (int piece : pieces.get(sort)) {
                    int least = leastHeight(sort, piece / 32, piece % 32);
                    if (least >= heights.get(sort).getOrDefault(piece, 1000000)) continue;
                    heights.get(sort).put(piece, least);
                    more = true;
                }
            }
        }
    }

    /** The nodes of a tree: of each sort, from, to, height, ways, how deep. */
    List<int[]> tree(int sort, int i, int j) {
        List<int[]> nodes = new ArrayList<>();
        if (!isOf(sort, i, j)) return nodes;
        findHeights();
        grow(sort, i, j, 0, nodes);
        return nodes;
    }

    private void grow(int sort, int i, int j, int deep, List<int[]> nodes) {
        if (nodes.size() == 200) return;
        int height = height(sort, i, j);
        nodes.add(new int[] {sort, i, j, height, ways(sort, i, j), deep});
        for (ModelGrammar.Production production : grammar.productions) {
            if (production.sort() != sort) continue;
            int[] first = null;
            // Rows come in the order of where their parts end.
            for (int[] row : rowsOf(production, i, j)) {
                if (first == null && heightBy(production, row) <= height) first = row;
            }
            if (first == null) continue;
            for (int k = 0; k < production.parts().size(); k++) {
                ModelGrammar.Part part = production.parts().get(k);
                if (part.kind() == '@') grow(part.value(), first[k * 2], first[k * 2 + 1], deep + 1, nodes);
            }
            return;
        }
    }

    /** What is wrong: of each text the greatest end, the sort, the length. */
    List<int[]> wrongs(int sort) {
        List<int[]> wrongs = new ArrayList<>();
        if (whole().contains(sort)) return wrongs;
        int end = 0;
        for (int j = 0; j <= text.length(); j++) {
            if (isOf(sort, 0, j)) end = j;
        }
        wrongs.add(new int[] {end, sort, text.length()});
        for (int place = 0; within < 3 && place < text.length(); place++) {
            for (ModelGrammar.Quote quote : grammar.quotes) {
                if (body(quote, place) == null || bodyIsGood(quote, place)) continue;
                wrongs.addAll(grammar.look(body(quote, place), within + 1).wrongs(quote.of()));
                return wrongs;
            }
        }
        return wrongs;
    }
}
