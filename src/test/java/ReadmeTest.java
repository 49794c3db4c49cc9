import java.io.ByteArrayOutputStream;
import java.io.IOException;
import java.io.PrintStream;
import java.nio.charset.StandardCharsets;
import java.nio.file.Files;
import java.nio.file.Path;
import java.util.regex.Matcher;
import java.util.regex.Pattern;

/** README.md: each call is told by the document's words, and the example prints what is told of it. */
public final class ReadmeTest {
    private static final int PROMISES = 18;
    private static final Pattern PROMISE = Pattern.compile("## Promise (\\d+): .*\\R\\R`([^`]*)`: (.*)");
    private static final Check CHECK = new Check("ReadmeTest");

    public static void main(String[] args) throws IOException {
        String readme = read("README.md");
        everyCallByTheDocumentsWords(readme);
        theExample(readme);
        everyTestIsNamed(readme);
        CHECK.due("README.md tells how to run the tests", readme.contains("```sh\n.ci/run\n```"), true);
        CHECK.finish();
    }

    private static String read(String path) throws IOException {
        return Files.readString(Path.of(path));
    }

    private static void everyCallByTheDocumentsWords(String readme) throws IOException {
        Matcher promise = PROMISE.matcher(read("../shared/DOC.md"));
        int found = 0;
        while (promise.find()) {
            found++;
            String row = "| " + promise.group(1) + " | `" + promise.group(2) + "` | " + promise.group(3) + " |";
            CHECK.due("README.md has the row " + row, readme.contains(row), true);
        }
        CHECK.due("promises found in the document", found, PROMISES);
    }

    private static void theExample(String readme) throws IOException {
        String code = read("src/test/java/Example.java");
        CHECK.due("README.md shows Example.java as it is", readme.contains("```java\n" + code + "```"), true);
        String printed = printedByExample();
        CHECK.due("README.md shows what it prints\n" + printed, readme.contains("```text\n" + printed + "```"), true);
    }

    private static String printedByExample() {
        ByteArrayOutputStream bytes = new ByteArrayOutputStream();
        PrintStream usual = System.out;
        System.setOut(new PrintStream(bytes, true, StandardCharsets.UTF_8));
        Example.main(new String[0]);
        System.setOut(usual);
        return bytes.toString(StandardCharsets.UTF_8).replace(System.lineSeparator(), "\n");
    }

    private static void everyTestIsNamed(String readme) throws IOException {
        try (var files = Files.newDirectoryStream(Path.of("src/test/java"), "*Test.java")) {
            for (Path file : files) {
                String name = file.getFileName().toString().replace(".java", "");
                CHECK.due("README.md tells of " + name, readme.contains("| `" + name + "` |"), true);
            }
        }
    }
}
