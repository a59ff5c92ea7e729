import java.io.IOException;
import java.nio.file.Files;
import java.nio.file.Path;
import java.util.List;
import java.util.regex.Matcher;
import java.util.regex.Pattern;

/** The example in README.md answers what it says there. */
public final class ReadmeTest {
    private static final Pattern ROW = Pattern.compile("x\\.(\\w+\\([^)]*\\)); +// (-?\\d+).*");

    public static void main(String[] args) throws IOException {
        List<String> lines = Files.readAllLines(Path.of("README.md"));
        Sentences.holds("README.md", () -> runExample(lines));
        Sentences.finish();
    }

    private static void runExample(List<String> lines) {
        Subject x = new Subject();
        int rows = 0;
        for (String line : lines) {
            if (!line.startsWith("x.")) continue;
            rows++;
            Matcher row = ROW.matcher(line);
            if (row.matches()) {
                x.due(row.group(1), Integer.parseInt(row.group(2)));
            } else {
                Sentences.wrong("no answer in: " + line);
            }
        }
        if (rows == 0) Sentences.wrong("there is no example");
    }
}
