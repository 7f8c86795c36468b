import java.io.IOException;
import java.lang.reflect.Method;
import java.lang.reflect.Modifier;
import java.nio.charset.StandardCharsets;
import java.nio.file.Files;
import java.nio.file.Path;
import java.util.List;
import java.util.stream.Collectors;
import java.util.stream.Stream;
import javax.tools.ToolProvider;

/** README.md: its program prints what it says there, and its tables name all calls and tests. */
public final class ReadmeTest {
    private ReadmeTest() {
    }

    public static void main(String[] args) throws IOException, InterruptedException {
        String readme = Files.readString(Path.of("README.md"));
        String source = args.length > 0 ? args[0] : "src/main/java/LastKeg.java";
        Path room = Files.createTempDirectory("readme");
        try {
            String due = block(readme, "text");
            Check.holds("it prints more than a line: " + due, due.lines().count() > 5);
            String said = printed(room, source, block(readme, "java"));
            Check.holds("the program prints what is due, not\n" + said, said.equals(due));
        } finally {
            remove(room);
        }
        names(readme);
        Check.finish();
    }

    private static String block(String readme, String kind) {
        String open = "```" + kind + "\n";
        int from = readme.indexOf(open);
        int to = readme.indexOf("```", from + open.length());
        Check.holds("a block of " + kind, from >= 0 && to >= 0);
        return from < 0 || to < 0 ? "" : readme.substring(from + open.length(), to);
    }

    private static String printed(Path room, String source, String program) throws IOException, InterruptedException {
        Path file = Files.writeString(room.resolve("Use.java"), program);
        int compiled = ToolProvider.getSystemJavaCompiler().run(null, null, null,
            "-Xlint:all", "-Werror", "-d", room.toString(), source, file.toString());
        Check.due("it compiles", compiled, 0);
        Path java = Path.of(System.getProperty("java.home"), "bin", "java");
        Process run = new ProcessBuilder(java.toString(), "-cp", room.toString(), "Use").redirectErrorStream(true).start();
        String said = new String(run.getInputStream().readAllBytes(), StandardCharsets.UTF_8);
        Check.due("it ends", run.waitFor(), 0);
        return said;
    }

    private static void remove(Path room) throws IOException {
        List<Path> all;
        try (Stream<Path> files = Files.walk(room)) {
            all = files.collect(Collectors.toList());
        }
        for (int i = all.size() - 1; i >= 0; i--) {
            Files.delete(all.get(i));
        }
    }

    private static void names(String readme) throws IOException {
        for (Method m : LastKeg.class.getDeclaredMethods()) {
            if (Modifier.isPublic(m.getModifiers())) {
                Check.holds("it names the call " + m.getName(), readme.contains("`" + m.getName() + "`"));
            }
        }
        try (Stream<Path> files = Files.list(Path.of("src/test/java"))) {
            for (Path file : files.collect(Collectors.toList())) {
                String name = file.getFileName().toString().replace(".java", "");
                Check.holds("it names the test " + name, !name.endsWith("Test") || readme.contains("`" + name + "`"));
            }
        }
    }
}
