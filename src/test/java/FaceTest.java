import java.io.IOException;
import java.lang.reflect.Constructor;
import java.lang.reflect.Field;
import java.lang.reflect.Method;
import java.lang.reflect.Modifier;
import java.nio.file.Files;
import java.nio.file.Path;
import java.util.ArrayList;
import java.util.Arrays;
import java.util.Collections;
import java.util.List;
import java.util.Set;
import java.util.TreeSet;

/** The class shows the document's face and nothing else; run from the project's folder. */
public final class FaceTest {
    private static final Answers ANSWERS = new Answers();
    private static final Set<String> FACE = new TreeSet<>(Arrays.asList(
            "public static final int BAD = -2000000",
            "public static final int NONE = -1000000",
            "public SpanDepParser(int, int)",
            "public boolean score(int, int, int)",
            "public boolean ban(int, int, boolean)",
            "public int best()",
            "public int head(int)",
            "public int bestTrees()",
            "public int trees()",
            "public int bestWith(int, int)",
            "public int bestWithout(int, int)",
            "public int treesWith(int, int)",
            "public int clear()"));

    public static void main(String[] args) throws IOException, IllegalAccessException {
        Set<String> seen = visibleMembers();
        List<String> document = documentFace();
        List<String> program = trimmedLines("src/main/java/SpanDepParser.java");
        ANSWERS.sentence("the constants, the constructor and the methods", () -> {
            for (String member : FACE) {
                ANSWERS.due("has " + member, seen.contains(member), true);
            }
        });
        ANSWERS.sentence("no other member is seen", () -> {
            for (String member : seen) {
                ANSWERS.due("may show " + member, FACE.contains(member), true);
            }
        });
        ANSWERS.sentence("just as they stand there", () -> {
            ANSWERS.due("lines of the document's face", document.size(), FACE.size() + 1);
            for (String line : document) {
                ANSWERS.due("lines " + line, Collections.frequency(program, line), 1);
            }
        });
        ANSWERS.sentence("public final class SpanDepParser", FaceTest::theClass);
        ANSWERS.sentence("BAD and NONE are constants", FaceTest::theConstants);
        ANSWERS.end();
    }

    private static void theClass() {
        Class<?> type = SpanDepParser.class;
        ANSWERS.due("modifiers", type.getModifiers(), Modifier.PUBLIC | Modifier.FINAL);
        ANSWERS.due("nested classes", type.getDeclaredClasses().length, 0);
        ANSWERS.due("interfaces", type.getInterfaces().length, 0);
        ANSWERS.due("extends Object", type.getSuperclass() == Object.class, true);
        ANSWERS.due("without a package", type.getPackageName().isEmpty(), true);
    }

    private static void theConstants() {
        ANSWERS.due("BAD", SpanDepParser.BAD, -2000000);
        ANSWERS.due("NONE", SpanDepParser.NONE, -1000000);
        ANSWERS.due("a bad word", whichConstant(new SpanDepParser(1, 0).head(2)), 1);
        ANSWERS.due("no tree", whichConstant(new SpanDepParser(1, 0).bestWithout(0, 1)), 2);
        ANSWERS.due("a head", whichConstant(new SpanDepParser(1, 0).head(1)), 3);
    }

    /** A case takes nothing but a compile-time constant, so this would not compile with another. */
    private static int whichConstant(int answer) {
        switch (answer) {
            case SpanDepParser.BAD:
                return 1;
            case SpanDepParser.NONE:
                return 2;
            default:
                return 3;
        }
    }

    /** The document's lines as a program has them, where a body stands behind each method. */
    private static List<String> documentFace() throws IOException {
        List<String> lines = trimmedLines("../shared/DOC.md");
        int start = lines.indexOf("```java") + 1;
        List<String> face = new ArrayList<>();
        for (String line : lines.subList(start, lines.lastIndexOf("```"))) {
            if (!line.equals("}")) {
                face.add(line.endsWith(");") ? line.replace(");", ") {") : line);
            }
        }
        return face;
    }

    private static List<String> trimmedLines(String file) throws IOException {
        List<String> lines = new ArrayList<>();
        for (String line : Files.readAllLines(Path.of(file))) {
            lines.add(line.trim());
        }
        return lines;
    }

    private static Set<String> visibleMembers() throws IllegalAccessException {
        Set<String> members = new TreeSet<>();
        for (Field field : SpanDepParser.class.getDeclaredFields()) {
            if (!Modifier.isPrivate(field.getModifiers())) {
                boolean shared = Modifier.isStatic(field.getModifiers());
                members.add(Modifier.toString(field.getModifiers()) + " " + field.getType() + " "
                        + field.getName() + (shared ? " = " + field.get(null) : ""));
            }
        }
        for (Constructor<?> made : SpanDepParser.class.getDeclaredConstructors()) {
            if (!Modifier.isPrivate(made.getModifiers())) {
                members.add(Modifier.toString(made.getModifiers()) + " SpanDepParser"
                        + listOf(made.getParameterTypes()));
            }
        }
        for (Method method : SpanDepParser.class.getDeclaredMethods()) {
            if (!Modifier.isPrivate(method.getModifiers())) {
                members.add(Modifier.toString(method.getModifiers()) + " " + method.getReturnType()
                        + " " + method.getName() + listOf(method.getParameterTypes()));
            }
        }
        return members;
    }

    private static String listOf(Class<?>[] types) {
        StringBuilder list = new StringBuilder();
        for (Class<?> type : types) {
            list.append(list.length() == 0 ? "" : ", ").append(type);
        }
        return "(" + list + ")";
    }
}
