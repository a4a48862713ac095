import java.lang.reflect.Method;
import java.lang.reflect.Modifier;
import java.net.URL;
import java.net.URLClassLoader;
import java.nio.file.Files;
import java.nio.file.Path;
import java.util.ArrayList;
import java.util.HashSet;
import java.util.List;
import java.util.Set;
import java.util.regex.Matcher;
import java.util.regex.Pattern;
import javax.tools.ToolProvider;

/** What README.md shows of the class's use is what the class answers: its example is compiled and run. */
public final class ReadmeTest {
    private static final String START = "```java";
    private static final String END = "```";
    private static final String MAKING = "UpgradeOptimiser x = new UpgradeOptimiser();";
    // A call, its answer kept in a variable or not, and the answer that the comment begins with.
    private static final Pattern SHOWN =
        Pattern.compile("(?:int (\\w+) = )?(x\\.(\\w+)\\(.*\\));\\s+// (-?\\d+|true|false)(?::.*)?");

    private static final StringBuilder body = new StringBuilder();
    private static final List<String> calls = new ArrayList<>();
    private static final List<String> shown = new ArrayList<>();
    private static final Set<String> methods = new HashSet<>();

    public static void main(String[] args) throws Exception {
        List<String> lines = example();
        Check.due("the example begins with a new object", lines.indexOf(MAKING), 0);
        for (String line : lines.subList(1, lines.size())) {
            read(line);
        }
        List<?> answers = answers();
        Check.due("answers of the example", answers.size(), shown.size());
        for (int i = 0; i < Math.min(answers.size(), shown.size()); i++) {
            Check.due("README.md: " + calls.get(i), String.valueOf(answers.get(i)), shown.get(i));
        }
        everyCallIsShown();
        Check.end();
    }

    private static List<String> example() throws Exception {
        List<String> lines = Files.readAllLines(Path.of("README.md"));
        int start = lines.indexOf(START) + 1;
        Check.due("README.md has an example", start > 0, true);
        List<String> rest = lines.subList(start, lines.size());
        return rest.subList(0, rest.indexOf(END));
    }

    private static void read(String line) {
        Matcher call = SHOWN.matcher(line);
        Check.due("a call and its answer: " + line, call.matches(), true);
        if (!call.matches()) {
            return;
        }
        String kept = call.group(1);
        String answer = kept == null ? call.group(2) : kept;
        if (kept != null) {
            body.append("int ").append(kept).append(" = ").append(call.group(2)).append(";\n");
        }
        body.append("answers.add(").append(answer).append(");\n");
        calls.add(call.group(2));
        methods.add(call.group(3));
        shown.add(call.group(4));
    }

    private static List<?> answers() throws Exception {
        String source = "public final class Example {\n"
            + "public static java.util.List<Object> answers() {\n"
            + "java.util.List<Object> answers = new java.util.ArrayList<>();\n"
            + MAKING + "\n" + body + "return answers;\n}\n}\n";
        Path place = Files.createTempDirectory("readme");
        Path file = place.resolve("Example.java");
        Path made = place.resolve("Example.class");
        try {
            Files.writeString(file, source);
            String classes = System.getProperty("java.class.path");
            int failed = ToolProvider.getSystemJavaCompiler()
                .run(null, null, null, "-cp", classes, "-d", place.toString(), file.toString());
            Check.due("compiling the example", failed, 0);
            if (failed != 0) {
                return List.of();
            }
            try (URLClassLoader loader = new URLClassLoader(new URL[] {place.toUri().toURL()})) {
                return (List<?>) loader.loadClass("Example").getMethod("answers").invoke(null);
            }
        } finally {
            Files.deleteIfExists(made);
            Files.deleteIfExists(file);
            Files.deleteIfExists(place);
        }
    }

    private static void everyCallIsShown() {
        for (Method method : UpgradeOptimiser.class.getDeclaredMethods()) {
            if (Modifier.isPublic(method.getModifiers())) {
                Check.due("README.md shows " + method.getName(), methods.contains(method.getName()), true);
            }
        }
    }
}
