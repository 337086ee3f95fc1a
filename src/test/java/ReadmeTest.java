import java.io.ByteArrayOutputStream;
import java.io.PrintStream;
import java.lang.reflect.Method;
import java.lang.reflect.Modifier;
import java.nio.file.DirectoryStream;
import java.nio.file.Files;
import java.nio.file.Path;

/** README.md shows the example as it is and what it prints, and names every call and every test. */
public final class ReadmeTest {
    private static final Path TESTS = Path.of("src/test/java");

    private static String printed() {
        PrintStream before = System.out;
        ByteArrayOutputStream bytes = new ByteArrayOutputStream();
        System.setOut(new PrintStream(bytes, true));
        Example.main(new String[0]);
        System.setOut(before);
        return bytes.toString().replace(System.lineSeparator(), "\n");
    }

    private static void callsAreNamed(String readme) {
        for (Method m : WordEach.class.getDeclaredMethods()) {
            if (Modifier.isPublic(m.getModifiers())) {
                Check.due("README names the call " + m.getName(), readme.contains("`" + m.getName() + "`"), true);
            }
        }
    }

    private static void testsAreNamed(String readme) throws Exception {
        try (DirectoryStream<Path> files = Files.newDirectoryStream(TESTS, "*Test.java")) {
            for (Path file : files) {
                String name = file.getFileName().toString().replace(".java", "");
                Check.due("README names " + name, readme.contains("`" + name + "`"), true);
            }
        }
    }

    public static void main(String[] args) throws Exception {
        String readme = Files.readString(Path.of("README.md"));
        String example = Files.readString(TESTS.resolve("Example.java"));
        Check.due("README shows the example", readme.contains("```java\n" + example + "```\n"), true);
        Check.due("README shows what it prints", readme.contains("```text\n" + printed() + "```\n"), true);
        Check.due("README tells how to run the tests", readme.contains("\n    .ci/run\n"), true);
        callsAreNamed(readme);
        testsAreNamed(readme);
        Check.over("ReadmeTest");
    }
}
