import java.io.IOException;
import java.io.StringWriter;
import java.lang.reflect.Method;
import java.lang.reflect.Modifier;
import java.net.URI;
import java.net.URL;
import java.net.URLClassLoader;
import java.nio.file.Files;
import java.nio.file.Path;
import java.util.List;
import java.util.TreeSet;
import java.util.regex.Matcher;
import java.util.regex.Pattern;
import javax.tools.JavaCompiler;
import javax.tools.JavaFileObject;
import javax.tools.SimpleJavaFileObject;
import javax.tools.ToolProvider;

/**
 * The calls that README.md shows, compiled and run just as they stand there, each answer compared with the number
 * behind it; and that README.md shows every call, every refusal, and every test.
 */
public final class ReadmeTest {
    private static final String CLASS = "ReadmeStory";
    private static final Pattern BLOCK = Pattern.compile("(?s)```java\n(.*?)```");
    private static final Pattern SHOWN = Pattern.compile("((?:x\\.|tell\\(x, )(.*)); +// (-?\\d+)(:.*)?");
    private static final Pattern MADE = Pattern.compile("EnginesOnList x = new EnginesOnList\\(\\);");

    private final TreeSet<String> calls = new TreeSet<>();
    private final TreeSet<String> refusals = new TreeSet<>();
    private final StringBuilder helpers = new StringBuilder();
    private final StringBuilder story = new StringBuilder();

    public static void main(String[] args) throws Exception {
        Path file = Path.of(System.getProperty("readme", "README.md"));
        String page = Files.readString(file);
        ReadmeTest test = new ReadmeTest();
        test.read(page);
        test.run();
        test.everyCallIsShown();
        boolean allRefusals = test.refusals.containsAll(List.of("-1", "-2", "-3", "-4", "-6"));
        Checks.holds("each refusal is shown: " + test.refusals, allRefusals);
        everyTestIsTold(page, file);
        Checks.end("ReadmeTest");
    }

    private void read(String page) {
        Matcher block = BLOCK.matcher(page);
        while (block.find()) {
            String code = block.group(1);
            if (code.contains("static ")) {
                helpers.append(code);
            } else {
                code.lines().forEach(this::readLine);
            }
        }
    }

    /** In the story a line shows a call and its answer, or makes the object; there is no third. */
    private void readLine(String line) {
        Matcher shown = SHOWN.matcher(line);
        if (shown.matches()) {
            String call = shown.group(1);
            calls.add(call.startsWith("x.") ? call.substring(2, call.indexOf('(')) : "tell");
            refusals.add(shown.group(3));
            String name = "README's " + call.replace("\"", "\\\"");
            story.append("Checks.due(\"" + name + "\", " + call + ", " + shown.group(3) + ");\n");
        } else {
            Checks.holds("a line of README's story: " + line, line.isBlank() || MADE.matcher(line).matches());
            story.append(line).append('\n');
        }
    }

    private void run() throws Exception {
        String source = "public final class " + CLASS + " {\n" + helpers
                + "public static void main(String[] args) {\n" + story + "}\n}\n";
        Path out = Files.createTempDirectory("readme");
        StringWriter errors = new StringWriter();
        boolean compiled = compile(source, out, errors);
        Checks.holds("README's story compiles: " + errors, compiled);
        if (compiled) {
            try (URLClassLoader loader = new URLClassLoader(new URL[] {out.toUri().toURL()})) {
                Method main = loader.loadClass(CLASS).getMethod("main", String[].class);
                main.invoke(null, (Object) new String[0]);
            }
        }
        Files.deleteIfExists(out.resolve(CLASS + ".class"));
        Files.deleteIfExists(out);
    }

    private static boolean compile(String source, Path out, StringWriter errors) {
        JavaCompiler compiler = ToolProvider.getSystemJavaCompiler();
        URI name = URI.create("string:///" + CLASS + ".java");
        JavaFileObject file = new SimpleJavaFileObject(name, JavaFileObject.Kind.SOURCE) {
            @Override
            public CharSequence getCharContent(boolean ignore) {
                return source;
            }
        };
        List<String> options = List.of("-cp", System.getProperty("java.class.path"), "-d", out.toString());
        return compiler.getTask(errors, null, null, options, null, List.of(file)).call();
    }

    private void everyCallIsShown() {
        for (Method method : EnginesOnList.class.getDeclaredMethods()) {
            if (Modifier.isPublic(method.getModifiers())) {
                Checks.holds("README shows " + method.getName(), calls.contains(method.getName()));
            }
        }
        Checks.holds("README tells lands", calls.contains("tell"));
    }

    private static void everyTestIsTold(String page, Path file) throws IOException {
        Path tests = file.toAbsolutePath().getParent().resolve("src/test/java");
        try (var files = Files.list(tests)) {
            for (Path test : (Iterable<Path>) files::iterator) {
                String name = test.getFileName().toString().replace(".java", "");
                boolean isTest = name.endsWith("Test");
                Checks.holds("README tells of " + name, !isTest || page.contains("| `" + name + "` |"));
            }
        }
    }
}
