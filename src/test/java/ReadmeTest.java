import java.io.ByteArrayOutputStream;
import java.io.IOException;
import java.io.PrintStream;
import java.net.URL;
import java.net.URLClassLoader;
import java.nio.charset.StandardCharsets;
import java.nio.file.Files;
import java.nio.file.Path;
import java.util.ArrayList;
import java.util.List;
import javax.tools.JavaCompiler;
import javax.tools.ToolProvider;

/** The program in README.md: that it compiles, and prints what its comments say. */
public final class ReadmeTest {
    private static final Checks CHECKS = new Checks();
    private static final Path README = Path.of("README.md");
    private static final String PRINTS = "System.out.println(";

    public static void main(String[] args) throws Exception {
        CHECKS.sentence("README.md says how to use the class");
        List<String> program = program();
        List<String> due = due(program);
        List<String> printed = printed(program);
        CHECKS.due("there is something to print", due.isEmpty(), false);
        CHECKS.due("how many lines it prints", printed.size(), due.size());
        for (int i = 0; i < due.size() && i < printed.size(); i++) {
            CHECKS.due("line " + i, printed.get(i), due.get(i));
        }
        CHECKS.end();
    }

    /** The lines between ```java and ``` . */
    private static List<String> program() throws IOException {
        List<String> program = new ArrayList<>();
        boolean within = false;
        for (String line : Files.readAllLines(README, StandardCharsets.UTF_8)) {
            if (line.startsWith("```")) {
                within = line.equals("```java");
            } else if (within) {
                program.add(line);
            }
        }
        return program;
    }

    /** What the comments behind the lines that print say. */
    private static List<String> due(List<String> program) {
        List<String> due = new ArrayList<>();
        for (String line : program) {
            if (line.contains(PRINTS)) {
                int comment = line.lastIndexOf("// ");
                CHECKS.due("a comment tells what is printed by " + line, comment >= 0, true);
                due.add(comment < 0 ? "" : line.substring(comment + 3));
            }
        }
        return due;
    }

    private static List<String> printed(List<String> program) throws Exception {
        Path folder = Files.createDirectories(Path.of("build", "readme"));
        Path source = folder.resolve("Example.java");
        Files.write(source, program, StandardCharsets.UTF_8);
        JavaCompiler compiler = ToolProvider.getSystemJavaCompiler();
        int failed = compiler.run(null, null, null, "-encoding", "UTF-8", "-cp", System.getProperty("java.class.path"),
                "-d", folder.toString(), source.toString());
        CHECKS.due("the compiler's exit code", failed, 0);
        return failed == 0 ? printedBy(folder) : List.of();
    }

    private static List<String> printedBy(Path folder) throws Exception {
        PrintStream console = System.out;
        ByteArrayOutputStream bytes = new ByteArrayOutputStream();
        System.setOut(new PrintStream(bytes, true, StandardCharsets.UTF_8));
        try (URLClassLoader loader = new URLClassLoader(new URL[] {folder.toUri().toURL()})) {
            loader.loadClass("Example").getMethod("main", String[].class).invoke(null, (Object) new String[0]);
        } finally {
            System.setOut(console);
        }
        return bytes.toString(StandardCharsets.UTF_8).lines().toList();
    }
}
