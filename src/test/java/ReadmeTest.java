import java.io.ByteArrayOutputStream;
import java.io.IOException;
import java.io.PrintStream;
import java.nio.charset.StandardCharsets;
import java.nio.file.Files;
import java.nio.file.Path;

/** The example that README.md prints is Example.java, and it answers as README.md says; run it from the project's root. */
public final class ReadmeTest {
    private static final Check CHECK = new Check();

    private ReadmeTest() {
    }

    /** What stands in the first block of that kind; "" if there is none. */
    private static String block(String readme, String kind) {
        String begin = "\n```" + kind + "\n";
        int from = readme.indexOf(begin);
        int to = from < 0 ? -1 : readme.indexOf("\n```\n", from + begin.length() - 1);
        return to < 0 ? "" : readme.substring(from + begin.length(), to + 1);
    }

    private static String printedByTheExample() {
        PrintStream ever = System.out;
        ByteArrayOutputStream printed = new ByteArrayOutputStream();
        System.setOut(new PrintStream(printed, true, StandardCharsets.UTF_8));
        try {
            Example.main(new String[0]);
        } finally {
            System.setOut(ever);
        }
        return printed.toString(StandardCharsets.UTF_8).replace(System.lineSeparator(), "\n");
    }

    public static void main(String[] args) throws IOException {
        String readme = Files.readString(Path.of("README.md"));
        String source = Files.readString(Path.of("src/test/java/Example.java"));
        CHECK.yes("README.md prints Example.java", block(readme, "java").equals(source));
        String answers = block(readme, "text");
        CHECK.no("README.md prints no answers", answers.isEmpty());
        CHECK.yes("Example.java answers as README.md says", printedByTheExample().equals(answers));
        CHECK.end();
    }
}
