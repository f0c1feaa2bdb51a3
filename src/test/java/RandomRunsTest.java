import java.lang.reflect.InvocationTargetException;
import java.lang.reflect.Method;
import java.util.ArrayList;
import java.util.HashMap;
import java.util.List;
import java.util.Map;
import java.util.Random;

/**
 * All promises: runs of calls drawn by a seed, each answer held against that of the model.
 * Two numbers as arguments are the first seed and how many; without, a few that take some seconds.
 */
public final class RandomRunsTest {
    private static final int MOST_CALLS = 512;
    private static final Map<String, Method> METHODS = new HashMap<>();
    private static final Map<String, Method> MODEL_METHODS = new HashMap<>();

    private final Random random;
    private final RandomTexts texts;
    private final PrunedParses parses = new PrunedParses();
    private final Model model = new Model();
    private final List<String> calls = new ArrayList<>();
    private int wrong;

    private RandomRunsTest(long seed) {
        random = new Random(seed);
        texts = new RandomTexts(random);
    }

    public static void main(String[] args) {
        for (Method method : PrunedParses.class.getDeclaredMethods()) METHODS.put(method.getName(), method);
        for (Method method : Model.class.getDeclaredMethods()) MODEL_METHODS.put(method.getName(), method);
        int first = args.length == 2 ? Integer.parseInt(args[0]) : 1;
        int many = args.length == 2 ? Integer.parseInt(args[1]) : 150;
        int answers = 0;
        int wrong = 0;
        for (int seed = first; seed < first + many && wrong == 0; seed++) {
            RandomRunsTest run = new RandomRunsTest(seed);
            run.make();
            answers += run.calls.size();
            wrong += run.wrong;
            if (run.wrong > 0) System.out.println("seed " + seed + ":\n" + String.join("\n", run.calls));
        }
        System.out.println("RandomRunsTest: " + answers + " answers, " + wrong + " wrong");
        if (wrong != 0) System.exit(1);
    }

    private boolean goesOn() {
        return calls.size() < MOST_CALLS - 60 && wrong == 0;
    }

    private static String answer(Method method, Object object, Object[] arguments) {
        try {
            Object answer = method.invoke(object, arguments);
            return answer instanceof Boolean ? (boolean) answer ? "1" : "0" : "" + answer;
        } catch (InvocationTargetException e) {
            return "throws." + e.getCause().getClass().getSimpleName();
        } catch (IllegalAccessException e) {
            return "no access";
        }
    }

    private int call(String name, Object... arguments) {
        if (wrong > 0) return 0;
        String due = answer(MODEL_METHODS.get(name), model, arguments);
        String got = answer(METHODS.get(name), parses, arguments);
        calls.add(name + java.util.Arrays.toString(arguments) + " " + due);
        if (!got.equals(due)) {
            wrong++;
            calls.add("answered " + got + ", due is " + due);
        }
        return due.startsWith("t") ? 0 : Integer.parseInt(due);
    }

    private int tell(String name, String text) {
        for (int from = 0; from < text.length(); from += 20) {
            Object[] numbers = {0, 0, 0, 0, 0};
            for (int k = 0; k < 20; k++) {
                int sign = from + k < text.length() ? text.charAt(from + k) : random.nextInt(256);
                numbers[k / 4] = (int) numbers[k / 4] << 8 | sign;
            }
            call("feed", numbers);
        }
        calls.add("  (" + name + " " + text + ")");
        int answer = call(name, chance(2) ? -1 : chance(2) ? 601 : text.length());
        call("fault");
        call("faulted");
        return answer;
    }

    /** In so many of a hundred times. */
    private boolean chance(int percent) {
        return random.nextInt(100) < percent;
    }

    private int oneOf(int... numbers) {
        return numbers[random.nextInt(numbers.length)];
    }

    private void make() {
        for (int grammars = 0; grammars < 3 && goesOn(); grammars++) {
            for (int tries = 0; tries < 4; tries++) {
                if (tell("grammar", texts.grammar()) >= 0) break;
            }
            for (int works = random.nextInt(8); works >= 0 && goesOn(); works--) workAndAsk();
        }
    }

    private void workAndAsk() {
        if (chance(30)) tell("law", texts.law());
        int length = call("told", 8);
        tell("work", texts.work(length, model.grammar));
        while (call("told", 8) > texts.longest && call("undo") >= 0) continue;
        if (call("told", 8) > texts.longest) tell("work", "cut " + texts.longest + " " + (call("told", 8) - texts.longest) + ";");
        for (int k = random.nextInt(12); k >= 0 && goesOn(); k--) ask();
        for (int what : new int[] {7, 8, 9}) call("told", what);
        if (chance(20)) call("undo");
        if (chance(15)) call("image");
        if (chance(15)) call("restore");
        call("count", random.nextInt(5) - 1);
        call("status", random.nextInt(4) - 1);
    }

    private int sort() {
        if (chance(2)) return oneOf(-1, 8);
        if (chance(20)) return random.nextInt(8);
        int whole = call("told", 7);
        int sort = random.nextInt(texts.sorts);
        for (int k = 0; k < 8 && chance(90); k++) {
            if ((whole >> (sort + k) % 8 & 1) == 1) return (sort + k) % 8;
        }
        return sort;
    }

    private int what(int most) {
        return chance(3) ? oneOf(-1, most + 1) : random.nextInt(most + 1);
    }

    private int place(int length) {
        return chance(3) ? oneOf(-1, length, length + 1) : random.nextInt(length + 1);
    }

    private void ask() {
        int length = call("told", 8);
        switch (random.nextInt(12)) {
            case 0 -> askGrammar();
            case 1, 2 -> askPiece(length);
            case 3, 4 -> askTree();
            case 5, 6 -> askWrong();
            case 7 -> askBody(length);
            case 8 -> {
                call("pieces", sort());
                call("commonest", what(1));
                call("run", place(length));
                call("sign", place(length));
            }
            case 9 -> call("fits", sort(), place(length), what(2));
            case 10 -> call("year", oneOf(random.nextInt(), random.nextInt(100)), chance(3) ? oneOf(0, 25) : 1 + random.nextInt(texts.longest / 2), what(3));
            default -> call("span", oneOf(random.nextInt(), Integer.MAX_VALUE), chance(5) ? oneOf(0, 5) : 1 + random.nextInt(4),
                chance(3) ? oneOf(0, 25) : 1 + random.nextInt(texts.longest / 3), what(2), sort());
        }
    }

    private void askGrammar() {
        int one = random.nextInt(4) - (chance(5) ? 1 : 0);
        call("told", what(9));
        call("group", one, what(3));
        call("holds", one, chance(5) ? oneOf(31, 127) : oneOf(32, 97, 98, 126, 32 + random.nextInt(95)));
        call("beside", one, random.nextInt(4));
        call("production", random.nextInt(12) - 1, what(2));
        call("sort", sort(), what(5));
        call("begins", sort(), chance(5) ? oneOf(31, 127) : texts.sign());
    }

    private void askPiece(int length) {
        int sort = sort();
        int i = chance(40) ? 0 : place(length);
        int ends = call("ends", sort, i);
        int j = chance(30) || i < 0 || i > length ? length : i + place(length - i);
        for (int k = 0; k <= length && chance(90); k++) {
            if ((ends >> (j + k & 31) & 1) == 1) j = j + k & 31;
        }
        call("is", sort, i, j);
        call("ways", sort, i, j);
        call("height", sort, i, j);
        call("nodes", sort, i, j);
    }

    private void askTree() {
        int sort = sort();
        call("worth", sort);
        int k = chance(3) ? -1 : oneOf(0, 1, 2, random.nextInt(12));
        for (int what = 0; what < 6; what++) call("node", sort, k, what);
        call("node", sort, k, what(5));
    }

    private void askWrong() {
        int sort = sort();
        for (int k = 0; k < 5; k++) {
            if (call("wrong", sort, k, 0) < 0 && chance(80)) break;
            call("wrong", sort, k, 1);
            call("wrong", sort, k, 2);
        }
        call("wrong", sort(), random.nextInt(4) - 1, what(2));
    }

    private void askBody(int length) {
        int quotes = call("told", 2);
        if (quotes == 0 && chance(90)) return;
        for (int place = 0; place < length; place++) {
            int quote = chance(5) ? random.nextInt(5) - 1 : random.nextInt(Math.max(1, quotes));
            if (call("body", quote, place) >= 0) call("inside", quote, place, random.nextInt(5) - 1);
        }
    }
}
