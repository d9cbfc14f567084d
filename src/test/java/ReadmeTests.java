import java.io.ByteArrayOutputStream;
import java.io.IOException;
import java.io.PrintStream;
import java.net.URL;
import java.net.URLClassLoader;
import java.nio.charset.StandardCharsets;
import java.nio.file.Files;
import java.nio.file.Path;
import javax.tools.JavaCompiler;
import javax.tools.ToolProvider;

/** Compiles the program of README.md and runs it: it has to print what README.md says. */
final class ReadmeTests {
    private ReadmeTests() {
    }

    static void run() {
        try {
            String readme = Files.readString(Path.of(System.getProperty("project", "."), "README.md"));
            String program = block(readme, "`Example.java`:\n\n");
            String printed = block(readme, "It prints:\n\n");
            Check.due("README.md has a program", program.isEmpty() ? 0 : 1, 1);
            Check.due("README.md says what it prints", printed.isEmpty() ? 0 : 1, 1);
            String got = printedBy(program);
            Check.due("the program of README.md prints:\n" + got, got.equals(printed) ? 1 : 0, 1);
        } catch (IOException | ReflectiveOperationException e) {
            Check.due("the program of README.md runs, but " + e, 0, 1);
        }
    }

    /** The lines behind a text that are indented by four spaces, without these. */
    private static String block(String readme, String ahead) {
        StringBuilder block = new StringBuilder();
        int from = readme.indexOf(ahead);
        String[] lines = from < 0 ? new String[0] : readme.substring(from + ahead.length()).split("\n");
        for (int i = 0; i < lines.length && lines[i].startsWith("    "); i++) {
            block.append(lines[i].substring(4)).append('\n');
        }
        return block.toString();
    }

    private static String printedBy(String program) throws IOException, ReflectiveOperationException {
        Path folder = Files.createTempDirectory("readme");
        Path source = folder.resolve("Example.java");
        Path compiled = folder.resolve("Example.class");
        try {
            Files.writeString(source, program);
            JavaCompiler compiler = ToolProvider.getSystemJavaCompiler();
            int answer = compiler.run(null, null, null, "-classpath", System.getProperty("java.class.path"),
                    "-d", folder.toString(), source.toString());
            Check.due("the program of README.md compiles", answer, 0);
            return answer == 0 ? printedByMain(folder) : "";
        } finally {
            Files.deleteIfExists(source);
            Files.deleteIfExists(compiled);
            Files.deleteIfExists(folder);
        }
    }

    private static String printedByMain(Path folder) throws IOException, ReflectiveOperationException {
        PrintStream before = System.out;
        ByteArrayOutputStream bytes = new ByteArrayOutputStream();
        try (URLClassLoader loader = new URLClassLoader(new URL[] {folder.toUri().toURL()})) {
            System.setOut(new PrintStream(bytes, true, StandardCharsets.UTF_8));
            loader.loadClass("Example").getMethod("main", String[].class).invoke(null, (Object) new String[0]);
        } finally {
            System.setOut(before);
        }
        return bytes.toString(StandardCharsets.UTF_8).replace(System.lineSeparator(), "\n");
    }
}
