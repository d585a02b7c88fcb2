import java.io.IOException;
import java.net.URL;
import java.net.URLClassLoader;
import java.nio.file.Files;
import java.nio.file.Path;
import java.util.ArrayList;
import java.util.List;
import java.util.regex.Matcher;
import java.util.regex.Pattern;
import java.util.stream.Stream;
import javax.tools.JavaCompiler;
import javax.tools.ToolProvider;

/**
 * What README.md says of the class's use and of its tests is so. Its blocks of Java are compiled as
 * they stand, and each call of the face in them must have the answer behind it ("// 1: the first
 * text", or the name of an exception); the tests and files that it names must be there, and none
 * may be left out.
 */
public final class ReadmeTest {
    private static final Pattern BLOCK = Pattern.compile("```java\n(.*?)```", Pattern.DOTALL);
    private static final Pattern CALL = Pattern.compile("(?:(int|boolean) (\\w+) = )?(x\\.\\w+\\(.*\\));\\s*// (-?\\d+|true|false|\\w+Exception)(: .+)?");
    private static final Pattern NAMED = Pattern.compile("`([A-Za-z]\\w*Test)`");
    private static final Pattern FILE = Pattern.compile("`((?:\\.\\./shared|src|\\.ci)/[\\w./-]+)`");

    private final String readme = Files.readString(Path.of("README.md"));
    private final StringBuilder methods = new StringBuilder();
    private final StringBuilder statements = new StringBuilder();
    private int checked;

    private ReadmeTest() throws IOException {
    }

    public static void main(String[] args) throws IOException, ReflectiveOperationException {
        ReadmeTest test = new ReadmeTest();
        test.namesWhatIsThere();
        test.readBlocks();
        int calls = test.checked;
        Bench.due(1, "calls of the example that are held against their answers", true, () -> calls >= 30);
        test.runExample();
        Bench.end("ReadmeTest");
    }

    private void namesWhatIsThere() throws IOException {
        Matcher named = NAMED.matcher(readme);
        List<String> names = new ArrayList<>();
        while (named.find()) {
            names.add(named.group(1));
        }
        List<String> tests;
        try (Stream<Path> found = Files.list(Path.of("src/test/java"))) {
            tests = found.map(f -> f.getFileName().toString().replace(".java", "")).filter(f -> f.endsWith("Test")).toList();
        }
        Bench.due(1, "tests that README.md names, but that are not there", List.of(), () -> names.stream().filter(n -> !tests.contains(n)).toList());
        Bench.due(1, "tests that README.md does not name", List.of(), () -> tests.stream().filter(t -> !names.contains(t)).toList());
        Matcher files = FILE.matcher(readme);
        while (files.find()) {
            String file = files.group(1);
            Bench.due(1, file + " is there", true, () -> Files.exists(Path.of(file)));
        }
    }

    private void readBlocks() {
        Matcher blocks = BLOCK.matcher(readme);
        while (blocks.find()) {
            boolean declares = blocks.group(1).startsWith("static ");
            for (String line : blocks.group(1).split("\n")) {
                if (declares) {
                    methods.append(line).append('\n');
                } else {
                    statements.append(checking(line.strip())).append('\n');
                }
            }
        }
    }

    /** The line as it stands, and behind it whether its answer is the one that it tells. */
    private String checking(String line) {
        Matcher call = CALL.matcher(line);
        if (!call.matches()) {
            Bench.due(1, "'" + line + "' tells its answer", true, () -> !line.contains("x.") || line.startsWith("x.image()"));
            return line;
        }
        checked++;
        String told = '"' + call.group(3) + '"';
        String due = '"' + call.group(4) + '"';
        if (call.group(2) != null) {
            return line + "\ndue(" + told + ", " + call.group(2) + ", " + due + ");";
        }
        return "try { due(" + told + ", " + call.group(3) + ", " + due + "); }"
            + " catch (RuntimeException e) { due(" + told + ", e.getClass().getSimpleName(), " + due + "); }";
    }

    private void runExample() throws IOException, ReflectiveOperationException {
        String source = "public final class ReadmeExample {\n" + methods
            + "static final StringBuilder wrong = new StringBuilder();\n"
            + "static void due(String call, Object got, String due) {\n"
            + "if (!due.equals(String.valueOf(got))) { wrong.append(call + \" answered \" + got + \", README.md says \" + due + \"; \"); } }\n"
            + "public static String run() {\n" + statements + "return wrong.toString();\n}\n}\n";
        Path out = Files.createTempDirectory("readme");
        Path file = out.resolve("ReadmeExample.java");
        try {
            Files.writeString(file, source);
            JavaCompiler compiler = ToolProvider.getSystemJavaCompiler();
            int code = compiler.run(null, null, null, "-d", out.toString(), "-cp", System.getProperty("java.class.path"), file.toString());
            Bench.due(1, "the example compiles", 0, () -> code);
            if (code == 0) {
                try (URLClassLoader loader = new URLClassLoader(new URL[] {out.toUri().toURL()})) {
                    Object wrong = loader.loadClass("ReadmeExample").getMethod("run").invoke(null);
                    Bench.due(1, "the example", "", () -> wrong);
                }
            }
        } finally {
            try (Stream<Path> left = Files.list(out)) {
                left.toList().forEach(f -> f.toFile().delete());
            }
            Files.delete(out);
        }
    }
}
