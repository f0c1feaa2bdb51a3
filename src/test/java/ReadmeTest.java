import java.io.IOException;
import java.net.URL;
import java.net.URLClassLoader;
import java.nio.file.Files;
import java.nio.file.Path;
import java.util.ArrayList;
import java.util.List;
import java.util.regex.Matcher;
import java.util.regex.Pattern;

/** README.md: its lines of Java are compiled and run, each call held against the answer that is told behind it. */
public final class ReadmeTest {
    private static final Pattern CALL = Pattern.compile("(parses\\..*); {2}// (\\S+)", Pattern.DOTALL);

    public static void main(String[] args) throws Exception {
        List<String> blocks = blocks(Files.readAllLines(Path.of("README.md")));
        Bench.due("README.md has blocks of Java", blocks.size() > 1, true);
        Path made = Files.createTempDirectory("readme");
        Path source = made.resolve("ReadmeExample.java");
        Files.writeString(source, example(blocks));
        int compiled = new ProcessBuilder("javac", "-cp", System.getProperty("java.class.path"), "-d", made.toString(), source.toString())
            .inheritIO().start().waitFor();
        Bench.due("javac of what README.md tells", compiled, 0);
        if (compiled == 0) run(made);
        remove(made);
        Bench.close("ReadmeTest");
    }

    private static List<String> blocks(List<String> lines) {
        List<String> blocks = new ArrayList<>();
        StringBuilder block = null;
        for (String line : lines) {
            if (line.equals("```java")) {
                block = new StringBuilder();
            } else if (line.equals("```") && block != null) {
                blocks.add(block.toString());
                block = null;
            } else if (block != null) {
                block.append(line).append('\n');
            }
        }
        return blocks;
    }

    /** The first block is a method, the others are what is done by one object. */
    private static String example(List<String> blocks) {
        StringBuilder text = new StringBuilder("public final class ReadmeExample {\n" + blocks.get(0) + "public static void run() {\n");
        for (String block : blocks.subList(1, blocks.size())) {
            for (String statement : block.split("\n(?! )")) text.append(held(statement)).append('\n');
        }
        return text.append("}\n}\n").toString();
    }

    /** A statement, as one that holds its answer against the one that is told behind it. */
    private static String held(String statement) {
        Matcher call = CALL.matcher(statement.strip());
        if (!call.matches()) return statement;
        String name = "\"" + call.group(1).replace("\\", "\\\\").replace("\"", "\\\"").replace("\n", "\\n") + "\"";
        String answer = call.group(2);
        if (!answer.endsWith("Exception")) return "ReadmeTest.due(" + name + ", " + call.group(1) + ", " + answer + ");";
        return "{ String thrown = \"\"; try { " + call.group(1) + "; } catch (RuntimeException e) { thrown = e.getClass().getSimpleName(); } "
            + "ReadmeTest.due(" + name + " + \" throws " + answer + "\", thrown.equals(\"" + answer + "\"), true); }";
    }

    /** The lines of README.md are loaded apart, and so see only what is public. */
    public static void due(String what, int got, int want) {
        Bench.due(what, got, want);
    }

    public static void due(String what, boolean got, boolean want) {
        Bench.due(what, got, want);
    }

    private static void run(Path made) throws Exception {
        try (URLClassLoader loader = new URLClassLoader(new URL[] {made.toUri().toURL()}, ReadmeTest.class.getClassLoader())) {
            loader.loadClass("ReadmeExample").getMethod("run").invoke(null);
        }
    }

    private static void remove(Path made) throws IOException {
        try (var files = Files.list(made)) {
            for (Path file : files.toList()) Files.delete(file);
        }
        Files.delete(made);
    }
}
