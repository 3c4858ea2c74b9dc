import com.sun.source.tree.*;
import com.sun.source.util.JavacTask;
import com.sun.source.util.SourcePositions;
import com.sun.source.util.TreeScanner;
import com.sun.source.util.Trees;
import java.io.IOException;
import java.nio.file.Path;
import java.util.ArrayList;
import java.util.EnumSet;
import java.util.HashSet;
import java.util.List;
import java.util.Set;
import java.util.TreeMap;
import java.util.TreeSet;
import java.util.stream.Collectors;
import javax.lang.model.element.Modifier;
import javax.lang.model.type.TypeKind;
import javax.tools.JavaCompiler;
import javax.tools.StandardJavaFileManager;
import javax.tools.ToolProvider;

/**
 * Reads the program as the compiler does and looks for what LANGUAGE.md forbids; run from the
 * project's folder. In places it asks for more than the rule, where the program keeps to more and
 * the rule itself could not be seen from the text.
 */
public final class LanguageTest {
    private static final Set<TypeKind> NUMBERS = EnumSet.of(TypeKind.INT, TypeKind.LONG,
            TypeKind.SHORT, TypeKind.BYTE, TypeKind.CHAR, TypeKind.BOOLEAN);
    private static final Set<Tree.Kind> LITERALS = EnumSet.of(Tree.Kind.INT_LITERAL,
            Tree.Kind.LONG_LITERAL, Tree.Kind.CHAR_LITERAL, Tree.Kind.BOOLEAN_LITERAL);
    private static final Set<Tree.Kind> EQUALITY =
            EnumSet.of(Tree.Kind.EQUAL_TO, Tree.Kind.NOT_EQUAL_TO);
    private static final Set<Tree.Kind> UPWARD =
            EnumSet.of(Tree.Kind.POSTFIX_INCREMENT, Tree.Kind.PREFIX_INCREMENT);
    private static final Set<Tree.Kind> DOWNWARD =
            EnumSet.of(Tree.Kind.POSTFIX_DECREMENT, Tree.Kind.PREFIX_DECREMENT);
    private static final Answers ANSWERS = new Answers();

    private final CompilationUnitTree unit;
    private final SourcePositions positions;
    private final List<VariableTree> fields = new ArrayList<>();
    private final List<MethodTree> methods = new ArrayList<>();
    private final Set<String> constants = new HashSet<>();
    private final Set<String> arrays = new HashSet<>();

    private LanguageTest(CompilationUnitTree unit, SourcePositions positions) {
        this.unit = unit;
        this.positions = positions;
        for (Tree member : all(unit, ClassTree.class).get(0).getMembers()) {
            if (member instanceof VariableTree) {
                fields.add((VariableTree) member);
            } else if (member instanceof MethodTree) {
                methods.add((MethodTree) member);
            }
        }
        for (VariableTree field : fields) {
            if (isStatic(field)) {
                constants.add(field.getName().toString());
            }
        }
        for (VariableTree variable : all(unit, VariableTree.class)) {
            if (variable.getType() instanceof ArrayTypeTree) {
                arrays.add(variable.getName().toString());
            }
        }
    }

    public static void main(String[] args) throws IOException {
        LanguageTest program = read(Path.of("src/main/java/SpanDepParser.java"));
        ANSWERS.sentence("rule 1: one class, no private method with a public name",
                program::oneClass);
        ANSWERS.sentence("rule 2: whole numbers and arrays of them", program::types);
        ANSWERS.sentence("rule 3: no class of the library", program::noLibrary);
        ANSWERS.sentence("rule 4: arrays are made in the fields", program::arraysOfFields);
        ANSWERS.sentence("rule 5: static fields are constants", program::staticFields);
        ANSWERS.sentence("rule 6: no exceptions, lambdas and the like", program::noExceptions);
        ANSWERS.sentence("rule 8: no recursion", program::noRecursion);
        ANSWERS.sentence("rule 8: a loop's end is seen in it", program::loopsEnd);
        ANSWERS.sentence("rule 10: short methods, shallow calls, few fields", program::sizes);
        ANSWERS.end();
    }

    private static LanguageTest read(Path file) throws IOException {
        JavaCompiler compiler = ToolProvider.getSystemJavaCompiler();
        try (StandardJavaFileManager manager = compiler.getStandardFileManager(null, null, null)) {
            JavacTask task = (JavacTask) compiler.getTask(null, manager, null, null, null,
                    manager.getJavaFileObjects(file));
            CompilationUnitTree unit = task.parse().iterator().next();
            return new LanguageTest(unit, Trees.instance(task).getSourcePositions());
        }
    }

    private static <T> List<T> all(Tree root, Class<T> kind) {
        List<T> found = new ArrayList<>();
        new TreeScanner<Void, Void>() {
            @Override
            public Void scan(Tree tree, Void nothing) {
                if (kind.isInstance(tree)) {
                    found.add(kind.cast(tree));
                }
                return super.scan(tree, nothing);
            }
        }.scan(root, null);
        return found;
    }

    private static void none(String what, List<?> found) {
        ANSWERS.due(found.isEmpty() ? what : what + " " + found, found.size(), 0);
    }

    private static boolean isStatic(VariableTree field) {
        return has(field.getModifiers(), Modifier.STATIC);
    }

    private static boolean has(ModifiersTree modifiers, Modifier one) {
        return modifiers.getFlags().contains(one);
    }

    private static boolean isNumber(Tree type) {
        return type instanceof PrimitiveTypeTree
                && NUMBERS.contains(((PrimitiveTypeTree) type).getPrimitiveTypeKind());
    }

    private static boolean isNumberOrArray(Tree type) {
        return type instanceof ArrayTypeTree ? isNumber(((ArrayTypeTree) type).getType())
                : isNumber(type);
    }

    private static boolean isName(Tree tree, Set<String> names) {
        return tree instanceof IdentifierTree
                && names.contains(((IdentifierTree) tree).getName().toString());
    }

    // Rule 1; FaceTest looks at what is visible

    private void oneClass() {
        ANSWERS.due("a package line", unit.getPackageName() != null, false);
        ANSWERS.due("classes of the file", unit.getTypeDecls().size(), 1);
        ANSWERS.due("classes in all", all(unit, ClassTree.class).size(), 1);
        Set<String> visible = methods.stream()
                .filter(method -> !has(method.getModifiers(), Modifier.PRIVATE))
                .map(method -> method.getName().toString()).collect(Collectors.toSet());
        none("private methods with a public name", methods.stream()
                .filter(method -> has(method.getModifiers(), Modifier.PRIVATE))
                .filter(method -> visible.contains(method.getName().toString()))
                .collect(Collectors.toList()));
    }

    // Rule 2

    private void types() {
        none("variables of another type", all(unit, VariableTree.class).stream()
                .filter(variable -> !isNumberOrArray(variable.getType()))
                .collect(Collectors.toList()));
        none("answers of another type", methods.stream().map(MethodTree::getReturnType)
                .filter(type -> type != null && !isNumber(type) && !type.toString().equals("void"))
                .collect(Collectors.toList()));
        none("casts to another type", all(unit, TypeCastTree.class).stream()
                .filter(cast -> !isNumber(cast.getType())).collect(Collectors.toList()));
        none("literals of another type", all(unit, LiteralTree.class).stream()
                .filter(literal -> !LITERALS.contains(literal.getKind()))
                .collect(Collectors.toList()));
    }

    // Rule 3

    private void noLibrary() {
        none("imports", unit.getImports());
        none("annotations", all(unit, AnnotationTree.class));
        none("members of others", all(unit, MemberSelectTree.class).stream()
                .filter(select -> !select.getExpression().toString().equals("this"))
                .filter(select -> !select.getIdentifier().contentEquals("length"))
                .collect(Collectors.toList()));
        Set<String> own = new HashSet<>(Set.of("this"));
        all(unit, VariableTree.class).forEach(one -> own.add(one.getName().toString()));
        Set<String> ownMethods = methods.stream().map(method -> method.getName().toString())
                .collect(Collectors.toSet());
        own.addAll(ownMethods);
        // The compiler puts the call of Object's constructor in later: here it is not seen.
        none("names from elsewhere", all(unit, IdentifierTree.class).stream()
                .filter(name -> !isName(name, own)).collect(Collectors.toList()));
        none("calls of methods from elsewhere", all(unit, MethodInvocationTree.class).stream()
                .filter(call -> !ownMethods.contains(called(call))).collect(Collectors.toList()));
    }

    private static String called(MethodInvocationTree call) {
        String text = call.getMethodSelect().toString();
        return text.startsWith("this.") ? text.substring(5) : text;
    }

    // Rule 4

    private void arraysOfFields() {
        none("objects made", all(unit, NewClassTree.class));
        List<NewArrayTree> made = all(unit, NewArrayTree.class);
        List<Tree> inFields = fields.stream().filter(field -> !isStatic(field))
                .map(VariableTree::getInitializer).collect(Collectors.toList());
        none("arrays made elsewhere", made.stream().filter(array -> !inFields.contains(array))
                .collect(Collectors.toList()));
        none("arrays without a constant length", made.stream()
                .filter(array -> array.getInitializers() != null
                        || array.getDimensions().size() != 1
                        || !isConstant(array.getDimensions().get(0)))
                .collect(Collectors.toList()));
        none("array fields that are not final and private", fields.stream()
                .filter(field -> field.getType() instanceof ArrayTypeTree)
                .filter(field -> !has(field.getModifiers(), Modifier.FINAL)
                        || !has(field.getModifiers(), Modifier.PRIVATE))
                .collect(Collectors.toList()));
        none("assignments to an array's name", all(unit, AssignmentTree.class).stream()
                .filter(one -> isName(one.getVariable(), arrays)).collect(Collectors.toList()));
        none("arrays compared", all(unit, BinaryTree.class).stream()
                .filter(one -> EQUALITY.contains(one.getKind()))
                .filter(one -> isName(one.getLeftOperand(), arrays)
                        || isName(one.getRightOperand(), arrays))
                .collect(Collectors.toList()));
    }

    private boolean isConstant(Tree length) {
        return length.getKind() == Tree.Kind.INT_LITERAL || isName(length, constants);
    }

    // Rule 5

    private void staticFields() {
        none("static fields that are no constant", fields.stream().filter(LanguageTest::isStatic)
                .filter(field -> !has(field.getModifiers(), Modifier.FINAL)
                        || field.getInitializer() == null
                        || !all(field.getInitializer(), MethodInvocationTree.class).isEmpty()
                        || !Set.of("int", "long").contains(field.getType().toString()))
                .collect(Collectors.toList()));
        none("static initialisers", all(unit, BlockTree.class).stream().filter(BlockTree::isStatic)
                .collect(Collectors.toList()));
    }

    // Rule 6

    private void noExceptions() {
        for (Class<? extends Tree> kind : List.of(ThrowTree.class, TryTree.class, CatchTree.class,
                SynchronizedTree.class, AssertTree.class, InstanceOfTree.class,
                LambdaExpressionTree.class, MemberReferenceTree.class)) {
            none(kind.getSimpleName(), all(unit, kind));
        }
        none("methods that may throw or lock", methods.stream()
                .filter(method -> !method.getThrows().isEmpty()
                        || has(method.getModifiers(), Modifier.SYNCHRONIZED))
                .collect(Collectors.toList()));
    }

    // Rule 8

    private TreeMap<String, Set<String>> calls() {
        TreeMap<String, Set<String>> calls = new TreeMap<>();
        for (MethodTree method : methods) {
            Set<String> of = calls.computeIfAbsent(method.getName().toString(),
                    name -> new TreeSet<>());
            all(method, MethodInvocationTree.class).forEach(call -> of.add(called(call)));
        }
        return calls;
    }

    /** How many calls deep it goes from here; more than there are methods when in a circle. */
    private static int depth(TreeMap<String, Set<String>> calls, String method, int above) {
        int deepest = above + 1;
        if (deepest <= calls.size()) {
            for (String next : calls.getOrDefault(method, Set.of())) {
                deepest = Math.max(deepest, depth(calls, next, above + 1));
            }
        }
        return deepest;
    }

    private void noRecursion() {
        TreeMap<String, Set<String>> calls = calls();
        for (String method : calls.keySet()) {
            ANSWERS.due(method + " calls in a circle", depth(calls, method, 0) > calls.size(),
                    false);
        }
    }

    private void loopsEnd() {
        none("while loops", all(unit, WhileLoopTree.class));
        none("do loops", all(unit, DoWhileLoopTree.class));
        List<ForLoopTree> loops = all(unit, ForLoopTree.class);
        ANSWERS.due("loops are found", !loops.isEmpty(), true);
        none("loops without a counter against a bound", loops.stream()
                .filter(loop -> !counts(loop)).collect(Collectors.toList()));
    }

    private static boolean counts(ForLoopTree loop) {
        if (loop.getInitializer().size() != 1 || loop.getUpdate().size() != 1
                || !(loop.getInitializer().get(0) instanceof VariableTree)
                || !(loop.getUpdate().get(0).getExpression() instanceof UnaryTree)) {
            return false;
        }
        String counter = ((VariableTree) loop.getInitializer().get(0)).getName().toString();
        UnaryTree step = (UnaryTree) loop.getUpdate().get(0).getExpression();
        return isName(step.getExpression(), Set.of(counter))
                && isBounded(loop.getCondition(), counter, step.getKind(), assigned(loop));
    }

    private static boolean isBounded(ExpressionTree condition, String counter, Tree.Kind step,
            Set<String> assigned) {
        if (!(condition instanceof BinaryTree)) {
            return false;
        }
        BinaryTree two = (BinaryTree) condition;
        switch (two.getKind()) {
            case CONDITIONAL_AND:
                return isBounded(two.getLeftOperand(), counter, step, assigned)
                        || isBounded(two.getRightOperand(), counter, step, assigned);
            case LESS_THAN: case LESS_THAN_EQUAL:
                return UPWARD.contains(step) && isHeldAgainst(two, counter, assigned);
            case GREATER_THAN: case GREATER_THAN_EQUAL:
                return DOWNWARD.contains(step) && isHeldAgainst(two, counter, assigned);
            default:
                return false;
        }
    }

    private static boolean isHeldAgainst(BinaryTree test, String counter, Set<String> assigned) {
        return isName(test.getLeftOperand(), Set.of(counter))
                && all(test.getRightOperand(), MethodInvocationTree.class).isEmpty()
                && all(test, IdentifierTree.class).stream().noneMatch(it -> isName(it, assigned));
    }

    /** The names that the loop's body gives another value. */
    private static Set<String> assigned(ForLoopTree loop) {
        Set<String> names = new HashSet<>();
        Tree body = loop.getStatement();
        all(body, AssignmentTree.class).forEach(it -> names.add(it.getVariable().toString()));
        all(body, CompoundAssignmentTree.class)
                .forEach(it -> names.add(it.getVariable().toString()));
        all(body, UnaryTree.class).stream()
                .filter(it -> UPWARD.contains(it.getKind()) || DOWNWARD.contains(it.getKind()))
                .forEach(it -> names.add(it.getExpression().toString()));
        return names;
    }

    // Rule 10

    private void sizes() {
        TreeMap<String, Set<String>> calls = calls();
        for (MethodTree method : methods) {
            String name = method.getName().toString();
            ANSWERS.due(name + " takes at most 7", method.getParameters().size() <= 7, true);
            ANSWERS.due(name + " has at most 60 lines", lines(method) <= 60, true);
            ANSWERS.due(name + " goes at most 6 deep", depth(calls, name, 0) <= 6, true);
        }
        none("calls in the arguments of a call", all(unit, MethodInvocationTree.class).stream()
                .filter(call -> call.getArguments().stream().anyMatch(argument ->
                        !all(argument, MethodInvocationTree.class).isEmpty()))
                .collect(Collectors.toList()));
        long held = fields.stream().filter(field -> !isStatic(field)).count();
        ANSWERS.due("at most 40 fields", held <= 40, true);
    }

    private long lines(MethodTree method) {
        LineMap map = unit.getLineMap();
        return map.getLineNumber(positions.getEndPosition(unit, method))
                - map.getLineNumber(positions.getStartPosition(unit, method)) + 1;
    }
}
