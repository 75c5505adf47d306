import java.io.IOException;
import java.io.StringWriter;
import java.net.URL;
import java.net.URLClassLoader;
import java.nio.file.Files;
import java.nio.file.Path;
import java.util.ArrayList;
import java.util.List;
import java.util.regex.Matcher;
import java.util.regex.Pattern;
import java.util.stream.Stream;
import javax.tools.JavaCompiler;
import javax.tools.StandardJavaFileManager;
import javax.tools.ToolProvider;

/** README.md tells each call of the face by the document's words, and its examples answer what it says they do. */
public final class ReadmeTest {
    private static final int PROMISES = 28;
    private static final Pattern PROMISE = Pattern.compile("(?s)\\n## Promise \\d+: [^\\n]*\\n(.*?)(?=\\n## )");
    private static final Pattern BLOCK = Pattern.compile("(?s)```java\\n(.*?)```");
    private static final Pattern EXAMPLE = Pattern.compile(
            "(\\w.*\\));\\s+// (NONE|true|false|NoSuchElementException|IllegalArgumentException|-?\\w+)(:.*)?");
    private static final Pattern CALLED = Pattern.compile("bridge\\.(\\w+)\\(");

    /** The class that the examples are made into; a line whose answer isn't the told one goes into its list. */
    private static final String CLASS = """
            import java.util.ArrayList;
            import java.util.List;
            import java.util.NoSuchElementException;

            public final class ReadmeExample {
                public static final List<String> WRONG = new ArrayList<>();
                private static final Object NONE = (long) BookBridge.NONE;

                interface Call {
                    Object answer();
                }

                static void due(String line, Object want, Call call) {
                    Object got;
                    try {
                        got = call.answer();
                    } catch (NoSuchElementException | IllegalArgumentException e) {
                        got = e.getClass().getSimpleName();
                    }
                    got = got instanceof Integer number ? (Object) number.longValue() : got;
                    if (!want.equals(got)) {
                        WRONG.add(line + " answered " + got);
                    }
                }

            HELPERS
                public static void run() {
            EXAMPLES
                }
            }
            """;

    private final Due due = new Due();
    private final String readme;

    private ReadmeTest(String readme) {
        this.readme = readme;
    }

    public static void main(String[] args) throws Exception {
        ReadmeTest test = new ReadmeTest(Files.readString(Path.of(args[2])));
        Path document = Path.of(args[1]);
        if (Files.exists(document)) {
            test.promises(Files.readString(document));
        }
        test.calls();
        test.examples();
        test.due.end();
    }

    private static String plain(String text) {
        return text.replaceAll("\\s+", " ").strip();
    }

    private void promises(String document) {
        Matcher promise = PROMISE.matcher(document);
        int found = 0;
        while (promise.find()) {
            String words = plain(promise.group(1));
            due.yes("README.md says: " + words, plain(readme).contains(words));
            found++;
        }
        due.yes("the document has " + found + " promises", found == PROMISES);
    }

    /** Each call of the face stands in some example. */
    private void calls() {
        List<String> called = new ArrayList<>();
        Matcher call = CALLED.matcher(String.join("\n", blocks()));
        while (call.find()) {
            called.add(call.group(1));
        }
        Stream.of(BookBridge.class.getMethods()).filter(method -> method.getDeclaringClass() == BookBridge.class)
                .forEach(method -> due.yes("an example of " + method.getName(), called.contains(method.getName())));
    }

    private List<String> blocks() {
        List<String> blocks = new ArrayList<>();
        Matcher block = BLOCK.matcher(readme);
        while (block.find()) {
            blocks.add(block.group(1));
        }
        return blocks;
    }

    private void examples() throws Exception {
        StringBuilder helpers = new StringBuilder();
        StringBuilder lines = new StringBuilder();
        int answers = 0;
        for (String block : blocks()) {
            if (block.startsWith("static ")) {
                helpers.append(block);
            } else {
                for (String line : block.split("\\n")) {
                    Matcher example = EXAMPLE.matcher(line);
                    boolean answered = example.matches();
                    lines.append(answered ? check(example) : line).append('\n');
                    answers += answered ? 1 : 0;
                }
            }
        }
        due.yes("README.md tells answers", answers > 0);
        List<?> wrong = run(CLASS.replace("HELPERS", helpers).replace("EXAMPLES", lines));
        for (Object line : wrong) {
            due.yes("README.md: " + line, false);
        }
    }

    private static String check(Matcher example) {
        String told = example.group(2);
        String want = told.endsWith("Exception") ? '"' + told + '"'
                : told.matches("NONE|true|false") ? told : "(Object) (long) " + told;
        String shown = example.group().replace("\\", "\\\\").replace("\"", "\\\"");
        return "due(\"" + shown + "\", " + want + ", () -> " + example.group(1) + ");";
    }

    private List<?> run(String source) throws Exception {
        Path place = Files.createTempDirectory("readme");
        try {
            Path file = place.resolve("ReadmeExample.java");
            Files.writeString(file, source);
            StringWriter told = new StringWriter();
            boolean compiled = compile(file, place, told);
            due.yes("README.md's examples compile: " + told, compiled);
            return compiled ? runClass(place) : List.of();
        } finally {
            delete(place);
        }
    }

    private static boolean compile(Path file, Path place, StringWriter told) throws IOException {
        JavaCompiler compiler = ToolProvider.getSystemJavaCompiler();
        try (StandardJavaFileManager files = compiler.getStandardFileManager(null, null, null)) {
            List<String> options = List.of("-cp", System.getProperty("java.class.path"), "-d", place.toString());
            return compiler.getTask(told, files, null, options, null, files.getJavaFileObjects(file)).call();
        }
    }

    private static List<?> runClass(Path place) throws Exception {
        try (URLClassLoader loader = new URLClassLoader(new URL[] {place.toUri().toURL()})) {
            Class<?> example = loader.loadClass("ReadmeExample");
            example.getMethod("run").invoke(null);
            return (List<?>) example.getField("WRONG").get(null);
        }
    }

    private static void delete(Path place) throws IOException {
        try (Stream<Path> files = Files.list(place)) {
            for (Path file : files.toList()) {
                Files.delete(file);
            }
        }
        Files.delete(place);
    }
}
