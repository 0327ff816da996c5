import java.io.IOException;
import java.net.URL;
import java.net.URLClassLoader;
import java.nio.charset.StandardCharsets;
import java.nio.file.Files;
import java.nio.file.Path;
import java.util.ArrayList;
import java.util.List;
import java.util.TreeSet;
import java.util.regex.Matcher;
import java.util.regex.Pattern;
import javax.tools.JavaCompiler;
import javax.tools.ToolProvider;
import support.Check;

/**
 * README.md's examples, compiled and run as they stand there, one after the other: a line that begins with a call is
 * checked against the answer, or the exception, behind its two strokes.
 */
public final class ReadmeTest {
    private static final Pattern CALL = Pattern.compile("\\w+\\.(\\w+)\\(.*");
    private static final Pattern TOLD = Pattern.compile("(\\w+\\.\\w+\\(.*\\));   // (-?\\d+|throws \\w+)(: .*)?");
    private static final Pattern FED = Pattern.compile("\\w+\\.feed\\(([^)]*)\\)");
    private static final Pattern QUOTED = Pattern.compile(": \"(.*)\"");

    private final StringBuilder members = new StringBuilder();
    private final StringBuilder calls = new StringBuilder();
    private final TreeSet<String> called = new TreeSet<>();
    private final TreeSet<String> thrown = new TreeSet<>();
    private int answers;

    public static void main(String[] args) throws IOException, ReflectiveOperationException {
        Path root = Path.of(args.length > 0 ? args[0] : ".");
        List<String> lines = Files.readAllLines(root.resolve("README.md"));
        ReadmeTest test = new ReadmeTest();
        Check.about("README.md");
        test.gather(lines);
        test.hasEachKind();
        namesEachTest(root, String.join("\n", lines));
        test.run();
        Check.end();
    }

    private void gather(List<String> lines) {
        boolean inside = false;
        StringBuilder into = calls;
        for (int i = 0; i < lines.size(); i++) {
            String line = lines.get(i);
            if (line.equals("```java")) {
                inside = true;
                into = lines.get(i + 1).startsWith("/**") ? members : calls;
            } else if (line.startsWith("```")) {
                inside = false;
            } else if (inside) {
                into.append(example(i + 1, line)).append('\n');
            }
        }
    }

    /** The line as it stands, or what checks its answer. */
    private String example(int number, String line) {
        Matcher call = CALL.matcher(line);
        if (!call.matches()) {
            return line;
        }
        Matcher told = TOLD.matcher(line);
        Check.due("line " + number + " tells its answer", 1, told.matches() ? 1 : 0);
        if (!told.matches()) {
            return line;
        }
        answers++;
        called.add(call.group(1));
        if (told.group(2).startsWith("throws")) {
            thrown.add(told.group(2).substring("throws ".length()));
        }
        fedAsQuoted(number, told);
        return "support.Check.due(\"line " + number + "\", \"" + told.group(2) + "\", support.Check.outcome(() -> "
                + told.group(1) + "));";
    }

    /** What a line says in quotes that its numbers spell is what they spell. */
    private static void fedAsQuoted(int number, Matcher told) {
        Matcher fed = FED.matcher(told.group(1));
        Matcher quoted = QUOTED.matcher(told.group(3) == null ? "" : told.group(3));
        if (!fed.matches() || !quoted.matches()) {
            return;
        }
        StringBuilder spelt = new StringBuilder();
        for (String one : fed.group(1).split(", ")) {
            long bits = Long.decode(one);
            for (int shift = 24; shift >= 0; shift -= 8) {
                spelt.append((char) (bits >> shift & 255));
            }
        }
        Check.due("line " + number + " spells", quoted.group(1), spelt.toString().replaceAll("\0+$", ""));
    }

    private void hasEachKind() {
        for (String call : List.of("feed", "town", "law", "deeds", "book", "fault", "undo", "image", "restore")) {
            Check.due("an example of " + call, 1, called.contains(call) ? 1 : 0);
        }
        Check.due("exceptions shown", "[IllegalArgumentException, IllegalStateException, NoSuchElementException]",
                thrown.toString());
    }

    private static void namesEachTest(Path root, String readme) throws IOException {
        List<Path> tests = new ArrayList<>();
        try (var files = Files.list(root.resolve("src/test/java"))) {
            files.filter(f -> f.toString().endsWith(".java")).forEach(tests::add);
        }
        for (Path test : tests) {
            Check.due("names " + test.getFileName(), 1, readme.contains("src/test/java/" + test.getFileName()) ? 1 : 0);
        }
    }

    private void run() throws IOException, ReflectiveOperationException {
        Path made = Files.createTempDirectory("readme");
        Path source = made.resolve("ReadmeExamples.java");
        Files.writeString(source, "public final class ReadmeExamples {\n" + members + "public static void run() {\n"
                + calls + "}\n}\n", StandardCharsets.UTF_8);
        JavaCompiler compiler = ToolProvider.getSystemJavaCompiler();
        int failed = compiler == null ? 1 : compiler.run(null, null, null, "-classpath",
                System.getProperty("java.class.path"), "-d", made.toString(), source.toString());
        Check.due("the examples compile", 0, failed);
        if (failed == 0) {
            try (URLClassLoader loader = new URLClassLoader(new URL[] {made.toUri().toURL()})) {
                loader.loadClass("ReadmeExamples").getMethod("run").invoke(null);
            }
        }
        Check.due("examples with an answer", 1, answers > 50 ? 1 : 0);
        try (var files = Files.list(made)) {
            files.forEach(f -> f.toFile().delete());
        }
        Files.delete(made);
    }
}
