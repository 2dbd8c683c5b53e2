import java.io.File;
import java.lang.reflect.Method;
import java.lang.reflect.Modifier;
import java.net.URL;
import java.net.URLClassLoader;
import java.nio.file.Files;
import java.nio.file.Path;
import java.util.ArrayList;
import java.util.Comparator;
import java.util.List;
import java.util.Set;
import java.util.TreeSet;
import java.util.regex.Matcher;
import java.util.regex.Pattern;
import java.util.stream.Stream;
import javax.tools.JavaCompiler;
import javax.tools.ToolProvider;

/** README.md: its Java compiles, and each call that it shows gives the answer that stands beside it. */
public final class ReadmeTest {
    private static final String CLASS = "ReadmeExamples";
    private static final Pattern BLOCK = Pattern.compile("(?ms)^```java\\n(.*?)^```$");
    private static final Pattern NEW = Pattern.compile("DyeVats town = new DyeVats\\(\\);(\\s*//.*)?");
    private static final Pattern CALL = Pattern.compile("(town\\.(\\w+)\\(.*\\));\\s*// (-?\\d+|true|false)(:.*)?");

    private static final List<String> wrong = new ArrayList<>();
    private static final Set<String> shown = new TreeSet<>();

    public static void main(String[] args) throws Exception {
        // .ci/run tells the checkout's root; by hand it is where the test is run.
        Path root = Path.of(System.getProperty("root", "."));
        String readme = Files.readString(root.resolve("README.md"));
        String program = programOf(readme);
        if (wrong.isEmpty()) {
            tryProgram(program);
        }
        allCallsAreShown();
        allTestsAreNamed(readme, root.resolve("src/test/java"));
        must(readme.contains("`.ci/run`"), "README.md says how to run the tests");
        wrong.forEach(System.out::println);
        System.out.println(wrong.isEmpty() ? "all is as README.md says" : wrong.size() + " wrong");
        if (!wrong.isEmpty()) {
            System.exit(1);
        }
    }

    private static void must(boolean holds, String what) {
        if (!holds) {
            wrong.add("not so: " + what);
        }
    }

    /** Called by the program that is made of README.md. */
    public static void due(String call, Object got, String want) {
        if (!String.valueOf(got).equals(want)) {
            wrong.add(call + " answered " + got + ", README.md says " + want);
        }
    }

    // A block with a static method is a helper of all examples; each other block is an example of its own.
    private static String programOf(String readme) {
        StringBuilder members = new StringBuilder();
        StringBuilder examples = new StringBuilder();
        Matcher blocks = BLOCK.matcher(readme);
        while (blocks.find()) {
            String block = blocks.group(1);
            if (Pattern.compile("(?m)^static ").matcher(block).find()) {
                members.append(block);
            } else {
                examples.append("{\n").append(exampleOf(block)).append("}\n");
            }
        }
        return "public final class " + CLASS + " {\n" + members + "public static void tryAll() {\n" + examples + "}\n}\n";
    }

    private static String exampleOf(String block) {
        StringBuilder code = new StringBuilder();
        for (String line : block.split("\n")) {
            Matcher call = CALL.matcher(line);
            if (call.matches()) {
                shown.add(call.group(2));
                String told = call.group(1).replace("\\", "\\\\").replace("\"", "\\\"");
                code.append("ReadmeTest.due(\"").append(told).append("\", ").append(call.group(1));
                code.append(", \"").append(call.group(3)).append("\");\n");
            } else if (line.isBlank() || NEW.matcher(line).matches()) {
                code.append(line).append('\n');
            } else {
                wrong.add("no call with its answer beside it: " + line);
            }
        }
        return code.toString();
    }

    private static void tryProgram(String program) throws Exception {
        Path out = Files.createTempDirectory("readme");
        try {
            Path source = out.resolve(CLASS + ".java");
            Files.writeString(source, program);
            JavaCompiler compiler = ToolProvider.getSystemJavaCompiler();
            String path = System.getProperty("java.class.path");
            if (compiler == null || compiler.run(null, null, null, "-d", out.toString(), "-cp", path, source.toString()) != 0) {
                wrong.add("the examples of README.md do not compile");
                return;
            }
            try (URLClassLoader loader = new URLClassLoader(new URL[] {out.toUri().toURL()})) {
                loader.loadClass(CLASS).getMethod("tryAll").invoke(null);
            }
        } finally {
            try (Stream<Path> files = Files.walk(out)) {
                files.sorted(Comparator.reverseOrder()).map(Path::toFile).forEach(File::delete);
            }
        }
    }

    private static void allCallsAreShown() {
        for (Method m : DyeVats.class.getDeclaredMethods()) {
            if (Modifier.isPublic(m.getModifiers())) {
                must(shown.contains(m.getName()), "README.md has an example of " + m.getName());
            }
        }
    }

    private static void allTestsAreNamed(String readme, Path tests) throws Exception {
        try (Stream<Path> files = Files.list(tests)) {
            for (Path file : (Iterable<Path>) files.sorted()::iterator) {
                String name = file.getFileName().toString().replace(".java", "");
                must(readme.contains("`" + name + "`"), "README.md names " + name);
            }
        }
    }
}
