import java.lang.reflect.Constructor;
import java.lang.reflect.Field;
import java.lang.reflect.Method;
import java.lang.reflect.Modifier;
import java.util.Arrays;
import java.util.Set;
import java.util.TreeSet;

/** The class shows the document's face and nothing else. */
public final class FaceTest {
    private static final Set<String> FACE = new TreeSet<>(Arrays.asList(
            "public static final int BAD = -2000000",
            "public static final int NONE = -1000000",
            "public SpanDepParser(int, int)",
            "public boolean score(int, int, int)",
            "public boolean ban(int, int, boolean)",
            "public int best()",
            "public int head(int)",
            "public int bestTrees()",
            "public int trees()",
            "public int bestWith(int, int)",
            "public int bestWithout(int, int)",
            "public int treesWith(int, int)",
            "public int clear()"));

    public static void main(String[] args) throws IllegalAccessException {
        Answers answers = new Answers();
        Set<String> seen = visibleMembers();
        for (String member : FACE) {
            answers.due("has " + member, seen.contains(member), true);
        }
        for (String member : seen) {
            answers.due("may show " + member, FACE.contains(member), true);
        }
        Class<?> type = SpanDepParser.class;
        answers.due("modifiers", type.getModifiers(), Modifier.PUBLIC | Modifier.FINAL);
        answers.due("nested classes", type.getDeclaredClasses().length, 0);
        answers.due("interfaces", type.getInterfaces().length, 0);
        answers.due("extends Object", type.getSuperclass() == Object.class, true);
        answers.due("without a package", type.getPackageName().isEmpty(), true);
        answers.end();
    }

    private static Set<String> visibleMembers() throws IllegalAccessException {
        Set<String> members = new TreeSet<>();
        for (Field field : SpanDepParser.class.getDeclaredFields()) {
            if (!Modifier.isPrivate(field.getModifiers())) {
                members.add(Modifier.toString(field.getModifiers()) + " " + field.getType() + " "
                        + field.getName() + " = " + field.get(null));
            }
        }
        for (Constructor<?> made : SpanDepParser.class.getDeclaredConstructors()) {
            if (!Modifier.isPrivate(made.getModifiers())) {
                members.add(Modifier.toString(made.getModifiers()) + " SpanDepParser"
                        + listOf(made.getParameterTypes()));
            }
        }
        for (Method method : SpanDepParser.class.getDeclaredMethods()) {
            if (!Modifier.isPrivate(method.getModifiers())) {
                members.add(Modifier.toString(method.getModifiers()) + " " + method.getReturnType()
                        + " " + method.getName() + listOf(method.getParameterTypes()));
            }
        }
        return members;
    }

    private static String listOf(Class<?>[] types) {
        StringBuilder list = new StringBuilder();
        for (Class<?> type : types) {
            list.append(list.length() == 0 ? "" : ", ").append(type);
        }
        return "(" + list + ")";
    }
}
