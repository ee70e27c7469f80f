import java.io.ByteArrayOutputStream;
import java.io.File;
import java.io.IOException;
import java.io.PrintStream;
import java.net.URL;
import java.net.URLClassLoader;
import java.nio.file.Files;
import java.nio.file.Path;
import java.util.ArrayList;
import java.util.List;
import java.util.spi.ToolProvider;
import java.util.stream.Stream;

/** The example of README.md is compiled and run as it stands there, and prints what its comments say. */
public final class ReadmeTest {
    private static final String PRINTS = "System.out.println(";

    public static void main(String[] args) throws Exception {
        Path folder = Files.createTempDirectory("readme");
        try {
            List<String> example = exampleOf(Files.readAllLines(Path.of("README.md")));
            Script.due("what the example of README.md prints", printed(folder, example), promised(example));
            Script.due("the example is long enough to be the one", promised(example).size() > 20, true);
            lookAtNames(Files.readString(Path.of("README.md")));
        } finally {
            remove(folder);
        }
        Script.end();
    }

    /** The lines of the one block of Java. */
    private static List<String> exampleOf(List<String> lines) {
        int begin = lines.indexOf("```java");
        List<String> behind = lines.subList(begin + 1, lines.size());
        return new ArrayList<>(behind.subList(0, behind.indexOf("```")));
    }

    /** What stands in the comments, up to the colon. */
    private static List<String> promised(List<String> example) {
        List<String> found = new ArrayList<>();
        for (String line : example) {
            if (line.contains(PRINTS)) {
                String comment = line.substring(line.indexOf("//") + 2);
                found.add(comment.substring(0, comment.indexOf(':')).trim());
            }
        }
        return found;
    }

    private static List<String> printed(Path folder, List<String> example) throws Exception {
        Path source = folder.resolve("Example.java");
        Files.write(source, example);
        String classes = System.getProperty("java.class.path");
        int code = ToolProvider.findFirst("javac").orElseThrow().run(System.out, System.err,
                "-cp", classes, "-d", folder.toString(), source.toString());
        Script.due("the example of README.md is compiled", code, 0);
        PrintStream usual = System.out;
        ByteArrayOutputStream bytes = new ByteArrayOutputStream();
        try (URLClassLoader loader = new URLClassLoader(new URL[] {folder.toUri().toURL()})) {
            System.setOut(new PrintStream(bytes, true));
            loader.loadClass("Example").getMethod("main", String[].class).invoke(null, (Object) new String[0]);
        } finally {
            System.setOut(usual);
        }
        return bytes.toString().lines().toList();
    }

    /** README.md names every method of the face, and every test that there is. */
    private static void lookAtNames(String readme) {
        for (java.lang.reflect.Method method : SequenceBench.class.getMethods()) {
            if (method.getDeclaringClass() == SequenceBench.class) {
                Script.due("README.md names " + method.getName(), readme.contains("`" + method.getName() + "`"), true);
            }
        }
        for (String file : new File("src/test/java").list()) {
            if (file.endsWith("Test.java")) {
                String name = file.substring(0, file.length() - ".java".length());
                Script.due("README.md names " + name, readme.contains("`" + name + "`"), true);
            }
        }
    }

    private static void remove(Path folder) throws IOException {
        try (Stream<Path> files = Files.list(folder)) {
            for (Path file : files.toList()) {
                Files.delete(file);
            }
        }
        Files.delete(folder);
    }
}
