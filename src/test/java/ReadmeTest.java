import java.io.ByteArrayOutputStream;
import java.io.IOException;
import java.io.PrintStream;
import java.lang.reflect.Method;
import java.lang.reflect.Modifier;
import java.net.URL;
import java.net.URLClassLoader;
import java.nio.charset.StandardCharsets;
import java.nio.file.Files;
import java.nio.file.Path;
import javax.tools.JavaCompiler;
import javax.tools.ToolProvider;

/** README.md is true: its program compiles and prints what the page tells, and the page names each call. */
public final class ReadmeTest {
    private static final Due due = new Due();

    public static void main(String[] args) throws Exception {
        String page = Files.readString(Path.of("README.md"));
        due.at("README.md");
        namesEachCall(page);
        programPrints(block(page, "java"), block(page, "text"));
        due.finish();
    }

    private static void namesEachCall(String page) {
        for (Method m : ProtocolAtlas.class.getDeclaredMethods()) {
            if (Modifier.isPublic(m.getModifiers())) {
                due.is("names " + m.getName(), page.contains("`" + m.getName() + "`"), true);
            }
        }
    }

    /** What stands in the first block of the page that is of that kind. */
    private static String block(String page, String kind) {
        String fence = "\n```" + kind + "\n";
        int from = page.indexOf(fence);
        int to = from < 0 ? -1 : page.indexOf("```", from + fence.length());
        due.is("has a block of " + kind, to >= 0, true);
        return to < 0 ? "" : page.substring(from + fence.length(), to);
    }

    private static void programPrints(String program, String told) throws Exception {
        Path directory = Files.createTempDirectory("readme");
        Path source = directory.resolve("Example.java");
        try {
            Files.writeString(source, program);
            JavaCompiler compiler = ToolProvider.getSystemJavaCompiler();
            int code = compiler == null ? -1 : compiler.run(null, null, null, "-cp",
                    System.getProperty("java.class.path"), "-d", directory.toString(), source.toString());
            due.is("its program compiles", code, 0);
            String printed = code == 0 ? run(directory) : "";
            due.is("its program prints\n" + printed, printed.equals(told), true);
        } finally {
            clear(directory);
        }
    }

    private static String run(Path directory) throws Exception {
        ByteArrayOutputStream bytes = new ByteArrayOutputStream();
        PrintStream before = System.out;
        try (URLClassLoader loader = new URLClassLoader(new URL[] {directory.toUri().toURL()},
                ReadmeTest.class.getClassLoader())) {
            System.setOut(new PrintStream(bytes, true, StandardCharsets.UTF_8));
            loader.loadClass("Example").getMethod("main", String[].class).invoke(null, (Object) new String[0]);
        } finally {
            System.setOut(before);
        }
        return bytes.toString(StandardCharsets.UTF_8).replace(System.lineSeparator(), "\n");
    }

    private static void clear(Path directory) throws IOException {
        try (var files = Files.list(directory)) {
            for (Path file : files.toList()) {
                Files.delete(file);
            }
        }
        Files.delete(directory);
    }
}
