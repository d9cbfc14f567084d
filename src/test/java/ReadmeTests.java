import java.io.File;
import java.io.IOException;
import java.nio.charset.StandardCharsets;
import java.nio.file.Files;
import java.nio.file.Path;

/** Compiles the program of README.md and runs it: it has to print what README.md says. */
final class ReadmeTests {
    private ReadmeTests() {
    }

    static void run() {
        try {
            String readme = Files.readString(Path.of(System.getProperty("project", "."), "README.md"));
            String program = block(readme, "`Example.java`:\n\n");
            String printed = block(readme, "It prints:\n\n");
            Check.due("README.md has a program", program.isEmpty() ? 0 : 1, 1);
            Check.due("README.md says what it prints", printed.isEmpty() ? 0 : 1, 1);
            String got = printedBy(program);
            Check.due("the program of README.md prints:\n" + got, got.equals(printed) ? 1 : 0, 1);
        } catch (IOException | InterruptedException e) {
            Check.due("the program of README.md runs, but " + e, 0, 1);
        }
    }

    /** The lines behind a text that are indented by four spaces, without these. */
    private static String block(String readme, String ahead) {
        StringBuilder block = new StringBuilder();
        int from = readme.indexOf(ahead);
        String[] lines = from < 0 ? new String[0] : readme.substring(from + ahead.length()).split("\n");
        for (int i = 0; i < lines.length && lines[i].startsWith("    "); i++) {
            block.append(lines[i].substring(4)).append('\n');
        }
        return block.toString();
    }

    private static String printedBy(String program) throws IOException, InterruptedException {
        Path folder = Files.createTempDirectory("readme");
        Path source = folder.resolve("Example.java");
        Path compiled = folder.resolve("Example.class");
        String classes = System.getProperty("java.class.path");
        try {
            Files.writeString(source, program);
            outputOf("javac", "-cp", classes, "-d", folder.toString(), source.toString());
            return outputOf("java", "-cp", folder + File.pathSeparator + classes, "Example");
        } finally {
            Files.deleteIfExists(source);
            Files.deleteIfExists(compiled);
            Files.deleteIfExists(folder);
        }
    }

    private static String outputOf(String... command) throws IOException, InterruptedException {
        Process process = new ProcessBuilder(command).redirectError(ProcessBuilder.Redirect.INHERIT).start();
        String output = new String(process.getInputStream().readAllBytes(), StandardCharsets.UTF_8);
        Check.due(command[0] + " of the program of README.md ends with", process.waitFor(), 0);
        return output.replace(System.lineSeparator(), "\n");
    }
}
