import java.io.IOException;
import java.io.StringWriter;
import java.net.URL;
import java.net.URLClassLoader;
import java.nio.file.Files;
import java.nio.file.Path;
import java.util.ArrayList;
import java.util.Comparator;
import java.util.List;
import java.util.Map;
import java.util.Set;
import java.util.TreeMap;
import java.util.TreeSet;
import java.util.regex.Matcher;
import java.util.regex.Pattern;
import java.util.stream.Collectors;
import java.util.stream.Stream;
import javax.tools.JavaCompiler;
import javax.tools.ToolProvider;

/** README.md is right: its calls compile and answer what it says, and its tables are whole. */
public final class ReadmeTest {
    private static final Checks checks = new Checks("ReadmeTest");
    private static final String PROGRAM = "ReadmeCalls";
    private static final String NEW_OBJECT = "DatatypeTerms x = new DatatypeTerms();";
    private static final Pattern BLOCK = Pattern.compile("(?ms)^```java\\n(.*?)^```$");
    // One call, kept in a variable or not, and behind it its answer and a remark.
    private static final Pattern CALL =
            Pattern.compile("(int \\w+ = )?(x\\.(\\w+)\\([^()]*\\)); *// = (-?\\d+|[A-Z_]+)(, .*)?");

    private final List<String> statements = new ArrayList<>();
    private final List<String> calls = new ArrayList<>();
    private final List<String> answers = new ArrayList<>();
    private final Set<String> methods = new TreeSet<>();

    public static void main(String[] args) throws IOException, ReflectiveOperationException {
        Path root = Path.of(System.getProperty("project.root", "."));
        String readme = Files.readString(root.resolve("README.md"));
        new ReadmeTest().run(readme);
        tableOfConstants(readme);
        tableOfTests(readme, root.resolve("src/test/java"));
        checks.holds("README.md names .ci/run, which can be run",
                readme.contains("\n    .ci/run\n") && Files.isExecutable(root.resolve(".ci/run")));
        checks.end();
    }

    private void run(String readme) throws IOException, ReflectiveOperationException {
        Matcher blocks = BLOCK.matcher(readme);
        while (blocks.find()) {
            blocks.group(1).lines().forEach(this::read);
        }
        everyMethodIsShown();
        Path folder = Files.createTempDirectory("readme");
        try {
            compareAnswers(folder);
        } finally {
            remove(folder);
        }
    }

    private void read(String line) {
        Matcher call = CALL.matcher(line);
        if (line.isBlank() || line.equals(NEW_OBJECT)) {
            statements.add(line);
        } else if (call.matches()) {
            String kept = call.group(1) == null ? "" : call.group(1);
            statements.add(kept + "answers[" + calls.size() + "] = " + call.group(2) + ";");
            calls.add(call.group(2));
            answers.add(call.group(4));
            methods.add(call.group(3));
        } else {
            checks.holds("README.md shows a call with its answer: " + line, false);
        }
    }

    private void everyMethodIsShown() {
        for (var method : DatatypeTerms.class.getMethods()) {
            if (method.getDeclaringClass() == DatatypeTerms.class) {
                checks.holds("README.md shows " + method.getName(), methods.contains(method.getName()));
            }
        }
    }

    private void compareAnswers(Path folder) throws IOException, ReflectiveOperationException {
        if (!compile(folder)) {
            return;
        }
        try (URLClassLoader loader = new URLClassLoader(new URL[] {folder.toUri().toURL()})) {
            int[] got = (int[]) loader.loadClass(PROGRAM).getMethod("run").invoke(null);
            for (int i = 0; i < calls.size(); i++) {
                checks.due("README.md: " + calls.get(i), got[i], number(answers.get(i)));
            }
        }
    }

    private boolean compile(Path folder) throws IOException {
        Path file = folder.resolve(PROGRAM + ".java");
        Files.writeString(file, "public final class " + PROGRAM + " {\n"
                + "public static int[] run() {\n"
                + "int[] answers = new int[" + calls.size() + "];\n"
                + String.join("\n", statements) + "\nreturn answers;\n}\n}\n");
        JavaCompiler compiler = ToolProvider.getSystemJavaCompiler();
        checks.holds("there is a compiler", compiler != null);
        if (compiler == null) {
            return false;
        }
        StringWriter messages = new StringWriter();
        try (var files = compiler.getStandardFileManager(null, null, null)) {
            List<String> options =
                    List.of("-d", folder.toString(), "-cp", System.getProperty("java.class.path"));
            boolean compiled = compiler.getTask(
                    messages, files, null, options, null, files.getJavaFileObjects(file)).call();
            checks.holds("the calls of README.md compile: " + messages, compiled);
            return compiled;
        }
    }

    private static int number(String answer) throws ReflectiveOperationException {
        return Character.isLetter(answer.charAt(0))
                ? DatatypeTerms.class.getField(answer).getInt(null)
                : Integer.parseInt(answer);
    }

    private static void remove(Path folder) throws IOException {
        List<Path> paths;
        try (Stream<Path> found = Files.walk(folder)) {
            paths = found.sorted(Comparator.reverseOrder()).collect(Collectors.toList());
        }
        for (Path path : paths) {
            Files.delete(path);
        }
    }

    private static void tableOfConstants(String readme) throws ReflectiveOperationException {
        Map<String, Integer> due = new TreeMap<>();
        for (var field : DatatypeTerms.class.getFields()) {
            due.put(field.getName(), field.getInt(null));
        }
        Map<String, Integer> shown = new TreeMap<>();
        Matcher line = Pattern.compile("(?m)^\\| `([A-Z_]+)` \\| (-?\\d+) \\|").matcher(readme);
        while (line.find()) {
            shown.put(line.group(1), Integer.valueOf(line.group(2)));
        }
        checks.holds("README.md has the constants " + due + ", not " + shown, shown.equals(due));
    }

    private static void tableOfTests(String readme, Path folder) throws IOException {
        Set<String> due;
        try (Stream<Path> files = Files.list(folder)) {
            due = files.map(file -> file.getFileName().toString())
                    .filter(name -> name.endsWith("Test.java"))
                    .map(name -> name.replace(".java", ""))
                    .collect(Collectors.toCollection(TreeSet::new));
        }
        Set<String> shown = new TreeSet<>();
        Matcher line = Pattern.compile("(?m)^\\| `(\\w+Test)` \\|").matcher(readme);
        while (line.find()) {
            shown.add(line.group(1));
        }
        checks.holds("README.md has the tests " + due + ", not " + shown, shown.equals(due));
    }
}
