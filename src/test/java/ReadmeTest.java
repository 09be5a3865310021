import java.io.ByteArrayOutputStream;
import java.io.IOException;
import java.io.PrintStream;
import java.lang.reflect.Method;
import java.lang.reflect.Modifier;
import java.nio.file.Files;
import java.nio.file.Path;

/** README.md shows an example that stands, what it prints, and each call; run in the project's own directory. */
final class ReadmeTest {
    public static void main(String[] args) throws IOException {
        String readme = Files.readString(Path.of("README.md"));
        String example = Files.readString(Path.of("src/test/java/OneDay.java"));
        Check.due("whether README.md shows OneDay", readme.contains("```java\n" + example + "```\n"), true);
        Check.due("whether README.md shows what OneDay prints", readme.contains("```text\n" + printed() + "```\n"), true);
        for (Method call : ExtrasOffice.class.getDeclaredMethods()) {
            if (Modifier.isPublic(call.getModifiers())) {
                Check.due("whether README.md tells of " + call.getName(), readme.contains("\n| `" + call.getName() + "("), true);
            }
        }
        for (String test : Path.of("src/test/java").toFile().list()) {
            if (test.endsWith("Test.java")) {
                String name = test.replace(".java", "");
                Check.due("whether README.md tells of " + name, readme.contains("\n| " + name + " |"), true);
            }
        }
        Check.due("whether README.md tells how to run the tests", readme.contains("\n`.ci/run`"), true);
        Check.finish("ReadmeTest");
    }

    private static String printed() {
        PrintStream usual = System.out;
        ByteArrayOutputStream kept = new ByteArrayOutputStream();
        System.setOut(new PrintStream(kept, true));
        try {
            OneDay.main(new String[0]);
        } finally {
            System.setOut(usual);
        }
        return kept.toString().replace(System.lineSeparator(), "\n");
    }
}
