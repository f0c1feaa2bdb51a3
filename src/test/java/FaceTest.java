import java.lang.reflect.Constructor;
import java.lang.reflect.Field;
import java.lang.reflect.Member;
import java.lang.reflect.Method;
import java.lang.reflect.Modifier;
import java.util.ArrayList;
import java.util.Arrays;
import java.util.Collections;
import java.util.List;

/** The public face: each method as the document tells it, with what it may throw, and nothing else that others see. */
public final class FaceTest {
    private static final String[] FACE = {
        "int feed(int a, int b, int c, int d, int e)",
        "int grammar(int n) throws IllegalArgumentException",
        "int law(int n) throws IllegalArgumentException",
        "int work(int n) throws IllegalArgumentException",
        "int fault()",
        "int faulted()",
        "int undo()",
        "int told(int what) throws IllegalArgumentException",
        "int group(int k, int what) throws NoSuchElementException, IllegalArgumentException",
        "boolean holds(int k, int sign) throws NoSuchElementException, IllegalArgumentException",
        "int beside(int k, int other) throws NoSuchElementException",
        "int production(int k, int what) throws NoSuchElementException, IllegalArgumentException",
        "int sort(int sort, int what) throws IllegalArgumentException",
        "boolean begins(int sort, int sign) throws IllegalArgumentException",
        "int sign(int place) throws NoSuchElementException",
        "int run(int place) throws NoSuchElementException",
        "boolean is(int sort, int i, int j) throws IllegalArgumentException",
        "int ends(int sort, int i) throws IllegalArgumentException",
        "int ways(int sort, int i, int j) throws IllegalArgumentException",
        "int height(int sort, int i, int j) throws IllegalArgumentException",
        "int nodes(int sort, int i, int j) throws IllegalArgumentException",
        "int node(int sort, int k, int what) throws IllegalArgumentException",
        "int worth(int sort) throws IllegalArgumentException",
        "int pieces(int sort) throws IllegalArgumentException",
        "int wrong(int sort, int k, int what) throws IllegalArgumentException",
        "int body(int quote, int place) throws NoSuchElementException",
        "int inside(int quote, int place, int k) throws NoSuchElementException, IllegalArgumentException",
        "int fits(int sort, int place, int what) throws NoSuchElementException, IllegalArgumentException",
        "int commonest(int what) throws IllegalArgumentException",
        "int year(int seed, int n, int what) throws IllegalArgumentException",
        "int span(int seed, int many, int n, int what, int sort) throws IllegalArgumentException",
        "int image()",
        "int restore()",
        "int status(int what)",
        "int count(int what)"
    };

    public static void main(String[] args) {
        Class<?> face = PrunedParses.class;
        Bench.due("the class is public", Modifier.isPublic(face.getModifiers()), true);
        Bench.due("the class is final", Modifier.isFinal(face.getModifiers()), true);
        Bench.due("NONE", PrunedParses.NONE, -1);
        Bench.due("constructors", face.getDeclaredConstructors().length, 1);
        for (Constructor<?> made : face.getDeclaredConstructors()) {
            Bench.due("the constructor is public", Modifier.isPublic(made.getModifiers()), true);
            Bench.due("parameters of the constructor", made.getParameterCount(), 0);
        }
        methods(face);
        fields(face);
        classesInside(face);
        Bench.close("FaceTest");
    }

    /** Seen by others: all that is not private, but for what the compiler makes. */
    private static boolean isSeen(Member member) {
        return !Modifier.isPrivate(member.getModifiers()) && !member.isSynthetic();
    }

    private static void methods(Class<?> face) {
        List<String> due = new ArrayList<>();
        for (String method : FACE) due.add(method.replaceAll("(int|boolean) \\w+(?=[,)])", "$1"));
        List<String> got = new ArrayList<>();
        for (Method method : face.getDeclaredMethods()) {
            if (!isSeen(method)) continue;
            Bench.due(method.getName() + " is public and not static", method.getModifiers(), Modifier.PUBLIC);
            got.add(told(method));
        }
        Collections.sort(due);
        Collections.sort(got);
        Bench.due("methods " + got + " are " + due, got.equals(due), true);
    }

    private static String told(Method method) {
        StringBuilder text = new StringBuilder(method.getReturnType() + " " + method.getName() + "(");
        for (Class<?> parameter : method.getParameterTypes()) {
            if (text.charAt(text.length() - 1) != '(') text.append(", ");
            text.append(parameter);
        }
        text.append(')');
        Class<?>[] thrown = method.getExceptionTypes();
        for (int k = 0; k < thrown.length; k++) text.append(k == 0 ? " throws " : ", ").append(thrown[k].getSimpleName());
        return text.toString();
    }

    private static void fields(Class<?> face) {
        int seen = 0;
        for (Field field : face.getDeclaredFields()) {
            if (isSeen(field)) seen++;
            boolean stays = Modifier.isFinal(field.getModifiers()) || !Modifier.isStatic(field.getModifiers());
            Bench.due(field.getName() + " is no static state", stays, true);
        }
        Bench.due("fields that others see", seen, 1);
    }

    private static void classesInside(Class<?> face) {
        for (Class<?> inside : face.getDeclaredClasses()) {
            int modifiers = inside.getModifiers();
            Bench.due(inside.getName() + " is neither public nor protected", Modifier.isPublic(modifiers) || Modifier.isProtected(modifiers), false);
            Bench.due(inside.getName() + " is static", Modifier.isStatic(modifiers), true);
        }
        List<String> names = new ArrayList<>();
        for (Method method : face.getDeclaredMethods()) names.add(method.getName());
        List<String> inner = new ArrayList<>();
        for (Class<?> inside : face.getDeclaredClasses()) {
            Arrays.stream(inside.getDeclaredMethods()).map(Method::getName).forEach(inner::add);
        }
        for (String method : FACE) {
            String name = method.substring(method.indexOf(' ') + 1, method.indexOf('('));
            Bench.due("how many methods bear the name " + name, Collections.frequency(names, name) + Collections.frequency(inner, name), 1);
        }
    }
}
