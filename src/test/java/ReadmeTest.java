import java.io.IOException;
import java.lang.reflect.Field;
import java.lang.reflect.Method;
import java.lang.reflect.Modifier;
import java.net.URL;
import java.net.URLClassLoader;
import java.nio.file.Files;
import java.nio.file.Path;
import java.util.ArrayList;
import java.util.Comparator;
import java.util.List;
import java.util.TreeSet;
import java.util.regex.Matcher;
import java.util.regex.Pattern;
import java.util.stream.Stream;
import javax.tools.JavaCompiler;
import javax.tools.ToolProvider;

/**
 * What README.md says is so: its examples are compiled and asked, and it names all there is.
 * Public, since the examples are loaded by a loader of their own.
 */
public final class ReadmeTest {
    private static final Checks CHECKS = new Checks();
    private static final Path README = Path.of("README.md");
    private static final Path TESTS = Path.of("src/test/java");
    private static final Pattern BLOCK = Pattern.compile("^```java\\n(.*?)^```$", Pattern.MULTILINE | Pattern.DOTALL);
    private static final Pattern ANSWERED =
            Pattern.compile("^\\s*(?:int (\\w+) = )?(house\\.\\w+\\(.*\\));\\s*// (-?\\d+|[A-Z]+(?: - \\d+)?)(?::.*)?$");
    private static final Pattern ROW = Pattern.compile("^\\| `(\\w+)(\\([\\w, ]*\\))?` \\| (.*) \\|$");

    private ReadmeTest() {
    }

    public static void main(String[] args) throws Exception {
        String page = Files.readString(README);
        examples(page);
        calls(page);
        refusals(page);
        tests(page);
        CHECKS.end("ReadmeTest");
    }

    /** Asked by the compiled examples, which know no other way to say what they saw. */
    public static void due(String call, long got, long want) {
        CHECKS.due("README: " + call, got, want);
    }

    private static void examples(String page) throws Exception {
        StringBuilder statements = new StringBuilder();
        StringBuilder methods = new StringBuilder();
        int answers = 0;
        Matcher block = BLOCK.matcher(page);
        while (block.find()) {
            boolean isMethod = block.group(1).startsWith("static ");
            for (String line : block.group(1).split("\n")) {
                Matcher m = ANSWERED.matcher(line);
                boolean isAnswered = m.matches();
                answers += isAnswered ? 1 : 0;
                CHECKS.due("README: an answer can be read: " + line, !isAnswered && line.contains("//") ? 1 : 0, 0);
                (isMethod ? methods : statements).append(isAnswered ? asked(m) : line).append('\n');
            }
        }
        CHECKS.due("README: there are examples", answers > 40 ? 1 : 0, 1);
        run("public final class ReadmeExample {\npublic static void main(String[] args) {\n" + statements + "}\n"
                + methods + "}\n");
    }

    private static String asked(Matcher m) {
        String want = m.group(3).replaceAll("[A-Z]+", "ShareHouse.$0");
        String name = m.group(1);
        String got = name == null ? m.group(2) : name;
        String made = name == null ? "" : "int " + name + " = " + m.group(2) + "; ";
        return made + "ReadmeTest.due(\"" + m.group(2).replace("\"", "\\\"") + "\", " + got + ", " + want + ");";
    }

    private static void run(String source) throws Exception {
        JavaCompiler compiler = ToolProvider.getSystemJavaCompiler();
        CHECKS.due("there is a compiler", compiler == null ? 0 : 1, 1);
        if (compiler == null) {
            return;
        }
        Path out = Files.createTempDirectory("readme");
        try (URLClassLoader loader = new URLClassLoader(new URL[] {out.toUri().toURL()})) {
            Path file = Files.writeString(out.resolve("ReadmeExample.java"), source);
            int failed = compiler.run(null, null, null, "-cp", System.getProperty("java.class.path"),
                    "-d", out.toString(), file.toString());
            CHECKS.due("README: its examples compile", failed, 0);
            if (failed == 0) {
                Method main = loader.loadClass("ReadmeExample").getMethod("main", String[].class);
                main.invoke(null, (Object) new String[0]);
            }
        } finally {
            remove(out);
        }
    }

    private static void remove(Path directory) throws IOException {
        List<Path> all = new ArrayList<>();
        try (Stream<Path> walk = Files.walk(directory)) {
            walk.sorted(Comparator.reverseOrder()).forEach(all::add);
        }
        for (Path path : all) {
            Files.delete(path);
        }
    }

    private static void calls(String page) {
        TreeSet<String> told = new TreeSet<>();
        for (String line : page.split("\n")) {
            Matcher m = ROW.matcher(line);
            if (m.matches() && m.group(2) != null) {
                String names = m.group(2).substring(1, m.group(2).length() - 1);
                told.add(m.group(1) + " " + (names.isEmpty() ? 0 : names.split(", ").length));
            }
        }
        TreeSet<String> seen = new TreeSet<>();
        for (Method m : ShareHouse.class.getDeclaredMethods()) {
            if (Modifier.isPublic(m.getModifiers())) {
                seen.add(m.getName() + " " + m.getParameterCount());
            }
        }
        CHECKS.due("README names the calls " + seen + ": " + told, told.equals(seen) ? 1 : 0, 1);
    }

    private static void refusals(String page) throws IllegalAccessException {
        TreeSet<String> told = new TreeSet<>();
        for (String line : page.split("\n")) {
            Matcher m = ROW.matcher(line);
            if (m.matches() && m.group(2) == null && m.group(3).startsWith("-")) {
                told.add(m.group(1) + " " + m.group(3).replaceAll(" .*", ""));
            }
        }
        TreeSet<String> seen = new TreeSet<>();
        for (Field f : ShareHouse.class.getDeclaredFields()) {
            if (Modifier.isPublic(f.getModifiers())) {
                seen.add(f.getName() + " " + f.getInt(null));
            }
        }
        CHECKS.due("README names the refusals " + seen + ": " + told, told.equals(seen) ? 1 : 0, 1);
    }

    private static void tests(String page) throws IOException {
        TreeSet<String> told = new TreeSet<>();
        Matcher m = Pattern.compile("`(\\w+Test)`").matcher(page);
        while (m.find()) {
            told.add(m.group(1));
        }
        TreeSet<String> seen = new TreeSet<>();
        try (Stream<Path> files = Files.list(TESTS)) {
            files.map(f -> f.getFileName().toString().replace(".java", "")).filter(n -> n.endsWith("Test"))
                    .forEach(seen::add);
        }
        CHECKS.due("README names the tests " + seen + ": " + told, told.equals(seen) ? 1 : 0, 1);
    }
}
