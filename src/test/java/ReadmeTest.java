import java.io.IOException;
import java.lang.reflect.Method;
import java.lang.reflect.Modifier;
import java.net.URL;
import java.net.URLClassLoader;
import java.nio.file.Files;
import java.nio.file.Path;
import java.util.ArrayList;
import java.util.List;
import java.util.regex.Matcher;
import java.util.regex.Pattern;
import java.util.stream.Stream;
import javax.tools.ToolProvider;

/** README.md: its example, compiled and run as it stands there, answers what it says; it names all calls and all tests. */
public final class ReadmeTest {
    private static final Pattern TOLD = Pattern.compile("(x\\.\\w+\\(.*\\)); +// (throws \\w+|-?\\d+|true|false): .+");

    private ReadmeTest() {
    }

    public static void main(String[] args) throws Exception {
        String page = Files.readString(Path.of("README.md"));
        example(page);
        namesCalls(page);
        namesTests(page);
        Check.end();
    }

    private static void example(String page) throws Exception {
        int start = page.indexOf("```java\n") + 8;
        String[] lines = page.substring(start, page.indexOf("```", start)).split("\n");
        StringBuilder code = new StringBuilder();
        List<String> calls = new ArrayList<>();
        List<String> want = new ArrayList<>();
        for (String line : lines) {
            Matcher told = TOLD.matcher(line);
            if (told.matches()) {
                calls.add(told.group(1));
                want.add(told.group(2).replace("throws ", "throws."));
                code.append("try { got.add(String.valueOf(").append(told.group(1)).append(")); }")
                        .append(" catch (RuntimeException e) { got.add(\"throws.\" + e.getClass().getSimpleName()); }\n");
            } else {
                Check.due("an answer that cannot be read: " + line, false, line.contains("//"));
                code.append(line).append("\n");
            }
        }
        List<?> got = answers(code.toString());
        Check.due("answers of the example", want.size(), got.size());
        for (int k = 0; k < want.size() && k < got.size(); k++) {
            Check.due("README.md: " + calls.get(k), want.get(k), got.get(k));
        }
        Check.due("calls with answers in the example", true, want.size() >= 10);
    }

    /** The example's code as a class of its own, which tells its answers. */
    private static List<?> answers(String code) throws Exception {
        Path place = Files.createTempDirectory("readme");
        Path source = place.resolve("ReadmeExample.java");
        Files.writeString(source, "public final class ReadmeExample {\n"
                + "    public static java.util.List<String> answers() {\n"
                + "        java.util.List<String> got = new java.util.ArrayList<>();\n" + code
                + "        return got;\n    }\n}\n");
        try (URLClassLoader loader = new URLClassLoader(new URL[] {place.toUri().toURL()}, ReadmeTest.class.getClassLoader())) {
            int result = ToolProvider.getSystemJavaCompiler().run(null, null, null,
                    "-cp", System.getProperty("java.class.path"), "-d", place.toString(), source.toString());
            Check.due("compiling the example", 0, result);
            return result != 0 ? List.of()
                    : (List<?>) loader.loadClass("ReadmeExample").getMethod("answers").invoke(null);
        } finally {
            remove(place);
        }
    }

    private static void remove(Path place) throws IOException {
        try (Stream<Path> files = Files.list(place)) {
            for (Path file : files.toList()) {
                Files.delete(file);
            }
        }
        Files.delete(place);
    }

    private static void namesCalls(String page) {
        for (Method method : EditMender.class.getDeclaredMethods()) {
            if (Modifier.isPublic(method.getModifiers())) {
                Check.due("README.md names " + method.getName(), true, page.contains("`" + method.getName() + "`"));
            }
        }
    }

    private static void namesTests(String page) throws IOException {
        try (Stream<Path> files = Files.list(Path.of("src/test/java"))) {
            for (Path file : files.toList()) {
                String name = file.getFileName().toString().replace(".java", "");
                Check.due("README.md names " + name, true, page.contains("`" + name + "`"));
            }
        }
    }
}
