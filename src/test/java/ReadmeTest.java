import java.io.ByteArrayOutputStream;
import java.io.IOException;
import java.io.PrintStream;
import java.lang.reflect.Method;
import java.lang.reflect.Modifier;
import java.net.URL;
import java.net.URLClassLoader;
import java.nio.charset.StandardCharsets;
import java.nio.file.Files;
import java.nio.file.Path;
import java.util.List;
import java.util.Map;
import java.util.stream.Stream;
import javax.tools.JavaCompiler;
import javax.tools.ToolProvider;

/** What README.md says of the class and of the tests is so. */
public final class ReadmeTest {
    private static final Check CHECK = new Check("ReadmeTest");
    private static final Map<String, String> LETTERS = Map.of(
        "IndexOutOfBoundsException", " P", "IllegalArgumentException", " A", "IllegalStateException", " S");

    /** The first block of this kind. */
    private static String block(String readme, String kind) {
        String fence = "```";
        int begin = readme.indexOf(fence + kind + "\n") + fence.length() + kind.length() + 1;
        return readme.substring(begin, readme.indexOf(fence, begin));
    }

    /** Each call of the face has a row, with the exceptions of its throws clause in their order. */
    private static void rows(String readme) {
        for (Method method : ForgeHeats.class.getDeclaredMethods()) {
            if (!Modifier.isPublic(method.getModifiers())) {
                continue;
            }
            StringBuilder letters = new StringBuilder();
            for (Class<?> thrown : method.getExceptionTypes()) {
                letters.append(LETTERS.get(thrown.getSimpleName()));
            }
            String begin = "| `" + method.getName() + "(";
            List<String> rows = readme.lines().filter(line -> line.startsWith(begin)).toList();
            CHECK.same("rows of " + method.getName(), rows.size(), 1);
            boolean isSo = rows.size() == 1 && rows.get(0).endsWith(" |" + letters + " |");
            CHECK.same(method.getName() + " throws" + letters, isSo ? 1 : 0, 1);
            int parameters = rows.size() == 1 ? parametersIn(rows.get(0)) : -1;
            CHECK.same("parameters of " + method.getName(), parameters, method.getParameterCount());
        }
    }

    private static int parametersIn(String row) {
        String inside = row.substring(row.indexOf('(') + 1, row.indexOf(')'));
        return inside.isEmpty() ? 0 : inside.split(",").length;
    }

    /** Each test of the project has a row. */
    private static void tests(String readme) throws IOException {
        try (Stream<Path> files = Files.list(Path.of("src/test/java"))) {
            for (Path file : files.toList()) {
                String name = file.getFileName().toString().replace(".java", "");
                boolean isNamed = name.endsWith("Test") ? readme.contains("| " + name + " |")
                    : readme.contains("`" + name + "`");
                CHECK.same("README.md names " + name, isNamed ? 1 : 0, 1);
            }
        }
    }

    /** The example compiles, and prints what is said. */
    private static void example(String readme) throws ReflectiveOperationException, IOException {
        Path folder = Files.createTempDirectory("example");
        Path source = Files.writeString(folder.resolve("Example.java"), block(readme, "java"));
        JavaCompiler compiler = ToolProvider.getSystemJavaCompiler();
        int wrong = compiler.run(null, null, null, "-d", folder.toString(),
            "-cp", System.getProperty("java.class.path"), source.toString());
        CHECK.same("compiling the example", wrong, 0);
        if (wrong == 0) {
            List<Object> due = List.copyOf(block(readme, "text").lines().toList());
            CHECK.alike("what the example prints", List.copyOf(printedBy(folder).lines().toList()), due);
        }
        Files.deleteIfExists(folder.resolve("Example.class"));
        Files.delete(source);
        Files.delete(folder);
    }

    private static String printedBy(Path folder) throws ReflectiveOperationException, IOException {
        PrintStream before = System.out;
        ByteArrayOutputStream printed = new ByteArrayOutputStream();
        try (URLClassLoader loader = new URLClassLoader(new URL[] {folder.toUri().toURL()})) {
            System.setOut(new PrintStream(printed, true, StandardCharsets.UTF_8));
            Method main = loader.loadClass("Example").getMethod("main", String[].class);
            main.invoke(null, (Object) new String[0]);
        } finally {
            System.setOut(before);
        }
        return printed.toString(StandardCharsets.UTF_8);
    }

    public static void main(String[] args) throws ReflectiveOperationException, IOException {
        String readme = Files.readString(Path.of("README.md"));
        rows(readme);
        tests(readme);
        example(readme);
        CHECK.end();
    }
}
