import java.io.IOException;
import java.lang.reflect.Method;
import java.lang.reflect.Modifier;
import java.net.URI;
import java.net.URL;
import java.net.URLClassLoader;
import java.nio.file.Files;
import java.nio.file.Path;
import java.util.List;
import java.util.Map;
import java.util.TreeMap;
import java.util.TreeSet;
import java.util.regex.Matcher;
import java.util.regex.Pattern;
import java.util.stream.Stream;
import javax.tools.JavaCompiler;
import javax.tools.JavaFileObject;
import javax.tools.SimpleJavaFileObject;
import javax.tools.ToolProvider;

/** What README.md says is so: its code compiles and answers as told, and it names all calls and all tests. */
public final class ReadmeTest {
    private static final Check CHECK = new Check("ReadmeTest");
    private static final Path PAGE = Path.of("README.md");
    private static final Path TESTS = Path.of("src/test/java");
    private static final Pattern BLOCK = Pattern.compile("(?s)```java\n(.*?)```");
    private static final Pattern ANSWER = Pattern.compile("(?m)^(r\\.\\w+\\(.*?\\)); +// (-?\\d+)\\b.*$");

    /** The code of the page as a class; it puts each answer that stands there beside the one that came. */
    private static String program(String page) {
        StringBuilder members = new StringBuilder();
        StringBuilder lines = new StringBuilder();
        Matcher block = BLOCK.matcher(page);
        while (block.find()) {
            (block.group(1).startsWith("static ") ? members : lines).append(block.group(1));
        }
        Matcher answer = ANSWER.matcher(lines);
        String told = answer.replaceAll("all.put(\"$0\", new long[] {$1, $2});");
        return "public final class Page {\n" + members
            + "public static java.util.Map<String, long[]> run() {\n"
            + "java.util.Map<String, long[]> all = new java.util.LinkedHashMap<>();\n" + told + "return all;\n}\n}\n";
    }

    @SuppressWarnings("unchecked")
    private static Map<String, long[]> run(String source) throws IOException, ReflectiveOperationException {
        Path out = Files.createTempDirectory("page");
        try {
            JavaCompiler compiler = ToolProvider.getSystemJavaCompiler();
            JavaFileObject file = new SimpleJavaFileObject(URI.create("string:///Page.java"), JavaFileObject.Kind.SOURCE) {
                @Override
                public CharSequence getCharContent(boolean ignored) {
                    return source;
                }
            };
            List<String> options = List.of("-d", out.toString(), "-cp", System.getProperty("java.class.path"));
            if (!compiler.getTask(null, null, null, options, null, List.of(file)).call()) {
                CHECK.due("the code of the page compiles", 0, 1);
                return new TreeMap<>();
            }
            try (URLClassLoader loader = new URLClassLoader(new URL[] {out.toUri().toURL()})) {
                return (Map<String, long[]>) loader.loadClass("Page").getMethod("run").invoke(null);
            }
        } finally {
            Files.deleteIfExists(out.resolve("Page.class"));
            Files.deleteIfExists(out);
        }
    }

    private static void names(String page) throws IOException {
        for (Method m : RibbonRoads.class.getDeclaredMethods()) {
            if (Modifier.isPublic(m.getModifiers())) {
                CHECK.due("names " + m.getName(), page.contains("`" + m.getName() + "`") ? 1 : 0, 1);
            }
        }
        TreeSet<String> there = new TreeSet<>();
        try (Stream<Path> files = Files.list(TESTS)) {
            files.map(f -> f.getFileName().toString()).filter(f -> f.endsWith("Test.java"))
                .forEach(f -> there.add(f.substring(0, f.length() - ".java".length())));
        }
        TreeSet<String> named = new TreeSet<>();
        Matcher name = Pattern.compile("`(\\w+Test)`").matcher(page);
        while (name.find()) {
            named.add(name.group(1));
        }
        CHECK.due("names the tests " + there + ", not " + named, there.equals(named) ? 1 : 0, 1);
    }

    public static void main(String[] args) throws IOException, ReflectiveOperationException {
        String page = Files.readString(PAGE);
        Map<String, long[]> answers = run(program(page));
        CHECK.due("answers stand on the page", answers.size() > 20 ? 1 : 0, 1);
        answers.forEach((line, both) -> CHECK.due(line, both[0], both[1]));
        names(page);
        CHECK.end();
    }
}
