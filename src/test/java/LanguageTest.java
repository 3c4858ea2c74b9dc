import java.io.IOException;
import java.nio.file.Files;
import java.nio.file.Path;
import java.util.regex.Matcher;
import java.util.regex.Pattern;

/** Scans the program for words and forms that LANGUAGE.md forbids; run from the project's folder. */
public final class LanguageTest {
    private static final String[] NOT_HAD = {
        "import", "package", "throw", "throws", "try", "catch", "synchronized", "assert",
        "instanceof", "null", "float", "double", "interface", "enum", "record", "protected",
        "Math", "Integer", "String", "System", "Arrays", "Object",
    };

    public static void main(String[] args) throws IOException {
        Answers answers = new Answers();
        String text = Files.readString(Path.of("src/main/java/SpanDepParser.java"));
        String code = text.replaceAll("(?s)/\\*.*?\\*/", "").replaceAll("//[^\n]*", "");
        for (String word : NOT_HAD) {
            answers.due("uses of " + word, count(code, "\\b" + word + "\\b"), 0);
        }
        answers.due("lambdas and method references", count(code, "->|::"), 0);
        answers.due("classes", count(code, "\\bclass\\b"), 1);
        answers.due("arrays made outside of fields", count(code, "\\bnew\\b")
                - count(code, "(?m)^    private final \\w+\\[\\] \\w+ = new \\w+\\[[A-Z_]+\\];$"), 0);
        answers.due("static fields that are no constant",
                count(code, "\\bstatic (?!final int [A-Z_]+ = )\\w+ \\w+ ?[=;]"), 0);
        answers.end();
    }

    private static int count(String code, String pattern) {
        Matcher matcher = Pattern.compile(pattern).matcher(code);
        int count = 0;
        while (matcher.find()) {
            count++;
        }
        return count;
    }
}
