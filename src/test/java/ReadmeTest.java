import java.io.IOException;
import java.nio.file.Files;
import java.nio.file.Path;
import java.util.ArrayList;
import java.util.List;

/** The example in README.md answers what it says there; run from the project's folder. */
public final class ReadmeTest {
    private static final Answers ANSWERS = new Answers();

    public static void main(String[] args) throws IOException {
        runExample();
        dueSameExample();
        ANSWERS.end();
    }

    private static void runExample() {
        SpanDepParser parser = new SpanDepParser(4, 0);
        parser.score(0, 2, 10);
        parser.score(2, 1, 5);
        parser.ban(3, 4, true);
        int best = parser.best();
        int head = parser.head(1);
        int without = parser.bestWithout(0, 2);
        int trees = parser.treesWith(2, 1);
        int banned = parser.clear();
        ANSWERS.due("best", best, 15);
        ANSWERS.due("head", head, 2);
        ANSWERS.due("without", without, 5);
        ANSWERS.due("trees", trees, 9);
        ANSWERS.due("banned", banned, 1);
    }

    /** What was run above is what README.md shows, and the numbers it tells were asked for. */
    private static void dueSameExample() throws IOException {
        String test = Files.readString(Path.of("src/test/java/ReadmeTest.java"));
        for (String line : exampleLines()) {
            String code = line.replaceFirst("//.*", "").trim();
            ANSWERS.due("the test has " + code, test.contains("        " + code + "\n"), true);
            if (code.startsWith("int ")) {
                String name = code.split(" ")[1];
                String number = line.replaceFirst(".*// (\\d+).*", "$1");
                String asked = "due(\"" + name + "\", " + name + ", " + number + ");";
                ANSWERS.due("the test asks for " + line, test.contains(asked), true);
            }
        }
    }

    private static List<String> exampleLines() throws IOException {
        List<String> readme = Files.readAllLines(Path.of("README.md"));
        int start = readme.indexOf("```java") + 1;
        List<String> example = new ArrayList<>(readme.subList(start, readme.lastIndexOf("```")));
        ANSWERS.due("README.md has an example", !example.isEmpty(), true);
        return example;
    }
}
