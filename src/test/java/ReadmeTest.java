import java.io.File;
import java.io.IOException;
import java.lang.reflect.Method;
import java.lang.reflect.Modifier;
import java.nio.charset.StandardCharsets;
import java.nio.file.Files;
import java.nio.file.Path;
import java.util.List;
import java.util.regex.Matcher;
import java.util.regex.Pattern;
import java.util.stream.Collectors;
import java.util.stream.Stream;
import javax.tools.ToolProvider;

/**
 * README.md's example is compiled and run: each println prints the number in the comment behind it.
 * README.md also names each method of the face, and each test. Runs in the project's folder.
 */
public final class ReadmeTest {
    private static final Path README = Path.of("README.md");
    private static final Path PROGRAM = Path.of("src/main/java/UnlikePens.java");
    private static final Path TESTS = Path.of("src/test/java");
    private static int wrong;

    private ReadmeTest() { }

    public static void main(String[] args) throws Exception {
        String readme = Files.readString(README);
        checkExample(readme);
        checkNames(readme);
        System.out.println(wrong == 0 ? "ReadmeTest: what it says holds" : "ReadmeTest: " + wrong + " lines are wrong");
        System.exit(wrong == 0 ? 0 : 1);
    }

    private static void need(boolean right, String what) {
        if (!right) {
            wrong++;
            System.out.println("ReadmeTest: " + what);
        }
    }

    private static void checkExample(String readme) throws Exception {
        Matcher block = Pattern.compile("(?s)```java\n(.*?)```").matcher(readme);
        need(block.find(), "no example");
        String example = block.group(1);
        List<String> due = Pattern.compile("println\\(.*\\); // (-?\\d+)").matcher(example).results()
            .map(found -> found.group(1)).collect(Collectors.toList());
        need(due.size() == example.split("println", -1).length - 1, "a println has no number behind it");
        List<String> got = printedBy(example);
        need(!due.isEmpty() && got.equals(due), "the example prints " + got + ", its comments say " + due);
    }

    private static List<String> printedBy(String example) throws Exception {
        Path folder = Files.createTempDirectory("readme");
        Path file = Files.writeString(folder.resolve("Example.java"), example);
        try {
            int failed = ToolProvider.getSystemJavaCompiler().run(null, null, null, "-encoding", "UTF-8",
                "-d", folder.toString(), PROGRAM.toString(), file.toString());
            need(failed == 0, "the example can't be compiled");
            return failed == 0 ? printedIn(folder) : List.of();
        } finally {
            remove(folder);
        }
    }

    /** In a Java machine of its own, as README.md says. */
    private static List<String> printedIn(Path folder) throws IOException, InterruptedException {
        String java = Path.of(System.getProperty("java.home"), "bin", "java").toString();
        Process run = new ProcessBuilder(java, "-cp", folder.toString(), "Example").redirectErrorStream(true).start();
        String printed = new String(run.getInputStream().readAllBytes(), StandardCharsets.UTF_8);
        need(run.waitFor() == 0, "the example fails");
        return printed.lines().collect(Collectors.toList());
    }

    private static void remove(Path folder) throws IOException {
        for (File one : folder.toFile().listFiles()) {
            Files.delete(one.toPath());
        }
        Files.delete(folder);
    }

    private static void checkNames(String readme) throws IOException {
        for (Method method : UnlikePens.class.getDeclaredMethods()) {
            boolean face = Modifier.isPublic(method.getModifiers());
            need(!face || readme.contains("`" + method.getName() + "`"), method.getName() + " is not named");
        }
        try (Stream<Path> tests = Files.list(TESTS)) {
            tests.map(path -> path.getFileName().toString()).filter(name -> name.endsWith("Test.java"))
                .map(name -> name.replace(".java", ""))
                .forEach(name -> need(readme.contains("`" + name + "`"), name + " is not named"));
        }
    }
}
