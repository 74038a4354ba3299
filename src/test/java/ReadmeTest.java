import java.lang.reflect.InvocationTargetException;
import java.net.URL;
import java.net.URLClassLoader;
import java.nio.file.Files;
import java.nio.file.Path;
import java.util.ArrayList;
import java.util.List;
import java.util.regex.Matcher;
import java.util.regex.Pattern;
import javax.tools.ToolProvider;

/** The examples of README.md, as one run: they compile, and each call answers what is told behind it. */
public final class ReadmeTest {
    private static final Pattern TOLD = Pattern.compile("(int|long|boolean) (\\w+) = .*; +// (-?\\d+|true|false)\\b.*");
    private static final int LEAST_ANSWERS = 20;

    private final StringBuilder methods = new StringBuilder();
    private final StringBuilder run = new StringBuilder();
    private int answers;

    private ReadmeTest() {
    }

    public static void main(String[] args) throws Exception {
        ReadmeTest test = new ReadmeTest();
        for (List<String> block : blocks(Files.readAllLines(Path.of("README.md")))) {
            test.take(block);
        }
        int wrong = test.answers < LEAST_ANSWERS ? 1 : test.runExamples();
        System.out.println(test.answers + " answers of README.md, " + (wrong == 0 ? "all as due" : wrong + " wrong"));
        if (wrong > 0) {
            System.exit(1);
        }
    }

    private static List<List<String>> blocks(List<String> lines) {
        List<List<String>> blocks = new ArrayList<>();
        boolean inside = false;
        for (String line : lines) {
            if (line.equals("```java")) {
                inside = true;
                blocks.add(new ArrayList<>());
            } else if (line.startsWith("```")) {
                inside = false;
            } else if (inside) {
                blocks.get(blocks.size() - 1).add(line);
            }
        }
        return blocks;
    }

    /** A block that begins with a comment is a method; the others are a run. */
    private void take(List<String> block) {
        StringBuilder into = block.get(0).startsWith("/**") ? methods : run;
        for (String line : block) {
            into.append(line).append('\n');
            Matcher told = TOLD.matcher(line);
            if (told.matches()) {
                answers++;
                into.append("if (" + told.group(2) + " != " + told.group(3) + ") { faults++; System.out.println(\""
                    + told.group(2) + " is \" + " + told.group(2) + " + \", README.md says " + told.group(3) + "\"); }\n");
            }
        }
    }

    private int runExamples() throws Exception {
        Path directory = Files.createTempDirectory("readme");
        try {
            return runExamples(directory);
        } finally {
            Files.delete(directory.resolve("Examples.java"));
            Files.deleteIfExists(directory.resolve("Examples.class"));
            Files.delete(directory);
        }
    }

    private int runExamples(Path directory) throws Exception {
        Path source = directory.resolve("Examples.java");
        Files.writeString(source, "public final class Examples {\n" + methods
            + "public static int run() {\nint faults = 0;\n" + run + "return faults;\n}\n}\n");
        String known = System.getProperty("java.class.path");
        int failed = ToolProvider.getSystemJavaCompiler().run(null, null, null, "-cp", known, "-d", directory.toString(),
            source.toString());
        if (failed != 0) {
            return failed;
        }
        URL[] place = {directory.toUri().toURL()};
        try (URLClassLoader loader = new URLClassLoader(place, ReadmeTest.class.getClassLoader())) {
            return (int) loader.loadClass("Examples").getMethod("run").invoke(null);
        } catch (InvocationTargetException e) {
            System.out.println("an example threw " + e.getCause());
            return 1;
        }
    }
}
