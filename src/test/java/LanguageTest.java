import com.sun.source.tree.ArrayTypeTree;
import com.sun.source.tree.AssignmentTree;
import com.sun.source.tree.BinaryTree;
import com.sun.source.tree.ClassTree;
import com.sun.source.tree.CompilationUnitTree;
import com.sun.source.tree.CompoundAssignmentTree;
import com.sun.source.tree.ExpressionStatementTree;
import com.sun.source.tree.ExpressionTree;
import com.sun.source.tree.ForLoopTree;
import com.sun.source.tree.LiteralTree;
import com.sun.source.tree.MemberSelectTree;
import com.sun.source.tree.MethodInvocationTree;
import com.sun.source.tree.MethodTree;
import com.sun.source.tree.NewArrayTree;
import com.sun.source.tree.PrimitiveTypeTree;
import com.sun.source.tree.Tree;
import com.sun.source.tree.Tree.Kind;
import com.sun.source.tree.TypeCastTree;
import com.sun.source.tree.UnaryTree;
import com.sun.source.tree.VariableTree;
import com.sun.source.util.JavacTask;
import com.sun.source.util.SourcePositions;
import com.sun.source.util.TreeScanner;
import com.sun.source.util.Trees;
import java.io.IOException;
import java.nio.file.Path;
import java.util.ArrayList;
import java.util.EnumSet;
import java.util.List;
import java.util.Map;
import java.util.Set;
import java.util.TreeMap;
import java.util.TreeSet;
import java.util.function.Predicate;
import javax.lang.model.element.Modifier;
import javax.lang.model.type.TypeKind;
import javax.tools.JavaCompiler;
import javax.tools.StandardJavaFileManager;
import javax.tools.ToolProvider;

/**
 * The rules of LANGUAGE.md, told from the source of the class. Where a rule leaves more than the class needs, the
 * narrower form is tested, as it is the one that can be told from the source: arrays in the fields' initialisers alone,
 * no local array, and loops that count up to a bound. Rule 7 is ExtremesTest's.
 */
public final class LanguageTest {
    private static final Path SOURCE = Path.of("src", "main", "java", "BacktrackMatch.java");
    private static final Set<Kind> CLASSES =
        EnumSet.of(Kind.CLASS, Kind.INTERFACE, Kind.ENUM, Kind.RECORD, Kind.ANNOTATION_TYPE);
    private static final Set<TypeKind> NUMBERS =
        EnumSet.of(TypeKind.INT, TypeKind.LONG, TypeKind.SHORT, TypeKind.BYTE, TypeKind.CHAR, TypeKind.BOOLEAN);
    private static final Set<Kind> NUMBER_LITERALS =
        EnumSet.of(Kind.INT_LITERAL, Kind.LONG_LITERAL, Kind.CHAR_LITERAL, Kind.BOOLEAN_LITERAL);
    private static final Set<Kind> LITERALS =
        EnumSet.of(Kind.FLOAT_LITERAL, Kind.DOUBLE_LITERAL, Kind.STRING_LITERAL, Kind.NULL_LITERAL);
    private static final Set<Kind> RULED_OUT = EnumSet.of(Kind.THROW, Kind.TRY, Kind.CATCH, Kind.SYNCHRONIZED, Kind.ASSERT,
        Kind.INSTANCE_OF, Kind.LAMBDA_EXPRESSION, Kind.MEMBER_REFERENCE);
    private static final Set<Kind> OTHER_LOOPS = EnumSet.of(Kind.WHILE_LOOP, Kind.DO_WHILE_LOOP, Kind.ENHANCED_FOR_LOOP);

    private static CompilationUnitTree unit;
    private static SourcePositions positions;
    private static ClassTree program;
    private static final List<VariableTree> FIELDS = new ArrayList<>();
    private static final List<MethodTree> METHODS = new ArrayList<>();
    private static final Map<String, Set<String>> CALLED = new TreeMap<>();

    public static void main(String[] args) throws IOException {
        read();
        Check.sentence("[1] One class", LanguageTest::oneClass);
        Check.sentence("[1] No private method bears the name of a public one.", LanguageTest::privateNames);
        Check.sentence("[2] Types: int, long, short, byte, char, boolean, and one-dimensional arrays of these.", LanguageTest::types);
        Check.sentence("[3] No class of the Java library", LanguageTest::noLibrary);
        Check.sentence("[4] Arrays are made in a field's initialiser", LanguageTest::arraysAreMadeAtTheStart);
        Check.sentence("[4] with a length, 1 or more, that is a literal or a constant", LanguageTest::arrayLengths);
        Check.sentence("[4] never compared with another one", LanguageTest::arraysAreNotCompared);
        Check.sentence("[4] no method assigns to an array field", LanguageTest::arrayFieldsStay);
        Check.sentence("[5] Static fields are compile-time constants of int or long alone.", LanguageTest::staticFields);
        Check.sentence("[6] No throw, try, catch, synchronized, assert, instanceof, lambda, method reference or cast of a reference.",
            LanguageTest::noExceptions);
        Check.sentence("[8] No recursion, neither direct nor through other methods.", LanguageTest::noRecursion);
        Check.sentence("[8] Every loop has an end that can be seen from its own lines (a counter against a bound).", LanguageTest::loops);
        Check.sentence("[10] A method takes at most seven parameters", LanguageTest::parameters);
        Check.sentence("[10] no call stands inside the arguments of another call", LanguageTest::noCallInArguments);
        Check.sentence("[10] Methods stay short (some sixty lines)", LanguageTest::methodsAreShort);
        Check.sentence("[10] calls go at most six deep", LanguageTest::callDepth);
        Check.sentence("[10] the class has at most some forty fields beside its constants", LanguageTest::fieldCount);
        Check.end();
    }

    private static void read() throws IOException {
        JavaCompiler compiler = ToolProvider.getSystemJavaCompiler();
        try (StandardJavaFileManager files = compiler.getStandardFileManager(null, null, null)) {
            JavacTask task = (JavacTask) compiler.getTask(null, files, null, null, null, files.getJavaFileObjects(SOURCE));
            unit = task.parse().iterator().next();
            positions = Trees.instance(task).getSourcePositions();
        }
        program = (ClassTree) unit.getTypeDecls().get(0);
        for (Tree member : program.getMembers()) {
            if (member instanceof VariableTree field) {
                FIELDS.add(field);
            } else if (member instanceof MethodTree method) {
                METHODS.add(method);
                CALLED.computeIfAbsent(nameOf(method), name -> new TreeSet<>()).addAll(calls(method));
            }
        }
    }

    private static String nameOf(MethodTree method) {
        return method.getName().toString();
    }

    /** Every node of a tree, its root first. */
    private static List<Tree> nodes(Tree root) {
        List<Tree> all = new ArrayList<>();
        new TreeScanner<Void, Void>() {
            @Override
            public Void scan(Tree tree, Void none) {
                if (tree != null) {
                    all.add(tree);
                }
                return super.scan(tree, none);
            }
        }.scan(root, null);
        return all;
    }

    private static Set<String> calls(Tree root) {
        Set<String> names = new TreeSet<>();
        for (Tree node : nodes(root)) {
            if (node instanceof MethodInvocationTree call) {
                names.add(call.getMethodSelect().toString());
            }
        }
        return names;
    }

    private static long lineOf(Tree node) {
        return unit.getLineMap().getLineNumber(positions.getStartPosition(unit, node));
    }

    private static void dueNone(String what, Tree root, Predicate<Tree> breaks) {
        for (Tree node : nodes(root)) {
            if (breaks.test(node)) {
                Check.due("line " + lineOf(node) + ", " + what, node.toString(), "nothing of the kind");
            }
        }
    }

    private static boolean has(VariableTree field, Modifier modifier) {
        return field.getModifiers().getFlags().contains(modifier);
    }

    private static boolean isArrayField(Tree node) {
        String name = node instanceof MemberSelectTree select ? select.getIdentifier().toString() : node.toString();
        for (VariableTree field : FIELDS) {
            if (field.getName().contentEquals(name) && field.getType() instanceof ArrayTypeTree) {
                return true;
            }
        }
        return false;
    }

    private static void oneClass() {
        Check.due("the package line", String.valueOf(unit.getPackageName()), "null");
        Check.due("imports", unit.getImports().size(), 0);
        Check.due("classes in the file", unit.getTypeDecls().size(), 1);
        dueNone("a class inside the class", program, node -> node != program && CLASSES.contains(node.getKind()));
        Check.due("what it extends", String.valueOf(program.getExtendsClause()), "null");
        Check.due("what it implements", program.getImplementsClause().toString(), "");
    }

    private static void privateNames() {
        Set<String> open = new TreeSet<>();
        for (MethodTree method : METHODS) {
            if (method.getModifiers().getFlags().contains(Modifier.PUBLIC)) {
                open.add(nameOf(method));
            }
        }
        for (MethodTree method : METHODS) {
            boolean isPublic = method.getModifiers().getFlags().contains(Modifier.PUBLIC);
            Check.due(nameOf(method) + " is public", isPublic, open.contains(nameOf(method)));
        }
    }

    private static boolean isNumber(Tree type) {
        return type instanceof PrimitiveTypeTree plain && NUMBERS.contains(plain.getPrimitiveTypeKind());
    }

    private static void types() {
        for (Tree node : nodes(program)) {
            if (node instanceof VariableTree variable) {
                Tree type = variable.getType() instanceof ArrayTypeTree array ? array.getType() : variable.getType();
                Check.due("the type of " + variable + " is allowed", isNumber(type), true);
            }
        }
        for (MethodTree method : METHODS) {
            Tree type = method.getReturnType();
            boolean isVoid = type == null || type.toString().equals("void");
            Check.due("the type that " + nameOf(method) + " answers is allowed", isVoid || isNumber(type), true);
        }
        dueNone("a literal that is no whole number or boolean", program, node -> LITERALS.contains(node.getKind()));
        dueNone("a type with arguments", program, node -> node.getKind() == Kind.PARAMETERIZED_TYPE);
    }

    private static void noLibrary() {
        dueNone("a name of something outside", program, node -> node instanceof MemberSelectTree select && !isOwn(select));
        dueNone("a call of something outside", program,
            node -> node instanceof MethodInvocationTree call && !CALLED.containsKey(call.getMethodSelect().toString()));
        dueNone("an annotation", program, node -> node.getKind() == Kind.ANNOTATION);
    }

    private static boolean isOwn(MemberSelectTree select) {
        boolean isLength = select.getIdentifier().contentEquals("length") && isArrayField(select.getExpression());
        return isLength || select.getExpression().toString().equals("this");
    }

    private static void arraysAreMadeAtTheStart() {
        Set<Tree> initialisers = Set.copyOf(arraysMade());
        dueNone("an array that is not made in a field's initialiser", program,
            node -> node.getKind() == Kind.NEW_ARRAY && !initialisers.contains(node));
        dueNone("an object that is made", program, node -> node.getKind() == Kind.NEW_CLASS);
        for (MethodTree method : METHODS) {
            dueNone("a local array", method.getBody(),
                node -> node instanceof VariableTree local && local.getType() instanceof ArrayTypeTree);
        }
    }

    private static List<NewArrayTree> arraysMade() {
        List<NewArrayTree> made = new ArrayList<>();
        for (VariableTree field : FIELDS) {
            if (field.getInitializer() instanceof NewArrayTree array) {
                made.add(array);
            }
        }
        return made;
    }

    private static void arrayLengths() {
        for (NewArrayTree array : arraysMade()) {
            Check.due(array + " has elements in braces", array.getInitializers() != null, false);
            Check.due(array + " has one dimension", array.getDimensions().size(), 1);
            Check.due(array + " has a constant length of 1 or more", valueOf(array.getDimensions().get(0)) >= 1, true);
        }
    }

    /** The value of a literal or of a constant that a literal is given to, -1 of anything else. */
    private static long valueOf(ExpressionTree length) {
        if (length instanceof LiteralTree literal && literal.getValue() instanceof Integer value) {
            return value;
        }
        for (VariableTree field : FIELDS) {
            if (field.getName().contentEquals(length.toString()) && has(field, Modifier.STATIC)
                && field.getInitializer() instanceof LiteralTree literal && literal.getValue() instanceof Integer value) {
                return value;
            }
        }
        return -1;
    }

    private static void arraysAreNotCompared() {
        dueNone("a comparison of arrays", program,
            node -> node instanceof BinaryTree both && (isArrayField(both.getLeftOperand()) || isArrayField(both.getRightOperand())));
    }

    private static void arrayFieldsStay() {
        for (MethodTree method : METHODS) {
            dueNone("an array field that is given another array", method,
                node -> node instanceof AssignmentTree assignment && isArrayField(assignment.getVariable()));
        }
    }

    private static void staticFields() {
        for (VariableTree field : FIELDS) {
            if (has(field, Modifier.STATIC)) {
                String type = field.getType().toString();
                Check.due(field + " is final", has(field, Modifier.FINAL), true);
                Check.due(field + " is an int or a long", type.equals("int") || type.equals("long"), true);
                Check.due(field + " has a literal", isSignedLiteral(field.getInitializer()), true);
            }
        }
        for (Tree member : program.getMembers()) {
            Check.due("line " + lineOf(member) + " is an initialiser", member.getKind() == Kind.BLOCK, false);
        }
    }

    private static boolean isSignedLiteral(ExpressionTree value) {
        ExpressionTree unsigned = value instanceof UnaryTree sign && sign.getKind() == Kind.UNARY_MINUS ? sign.getExpression() : value;
        return unsigned != null && NUMBER_LITERALS.contains(unsigned.getKind());
    }

    private static void noExceptions() {
        dueNone("a statement that is ruled out", program, node -> RULED_OUT.contains(node.getKind()));
        dueNone("a cast of a reference", program, node -> node instanceof TypeCastTree cast && !isNumber(cast.getType()));
        for (MethodTree method : METHODS) {
            Check.due(nameOf(method) + " throws", method.getThrows().toString(), "");
            boolean isSynchronized = method.getModifiers().getFlags().contains(Modifier.SYNCHRONIZED);
            Check.due(nameOf(method) + " is synchronized", isSynchronized, false);
        }
    }

    private static void noRecursion() {
        for (String name : CALLED.keySet()) {
            Set<String> reached = new TreeSet<>();
            List<String> next = new ArrayList<>(CALLED.get(name));
            while (!next.isEmpty()) {
                String called = next.remove(0);
                if (reached.add(called)) {
                    next.addAll(CALLED.getOrDefault(called, Set.of()));
                }
            }
            Check.due(name + " calls itself, maybe through others", reached.contains(name), false);
        }
    }

    private static void loops() {
        dueNone("a loop that does not count", program, node -> OTHER_LOOPS.contains(node.getKind()));
        dueNone("a loop that does not count up to a bound", program, node -> node instanceof ForLoopTree loop && !countsUp(loop));
    }

    /** for (int i = ..; i < bound; i++), maybe with more after && in the condition, where the body sets neither i nor the bound. */
    private static boolean countsUp(ForLoopTree loop) {
        if (loop.getInitializer().size() != 1 || !(loop.getInitializer().get(0) instanceof VariableTree counter)
            || loop.getUpdate().size() != 1) {
            return false;
        }
        ExpressionTree condition = loop.getCondition();
        while (condition instanceof BinaryTree both && both.getKind() == Kind.CONDITIONAL_AND) {
            condition = both.getLeftOperand();
        }
        String name = counter.getName().toString();
        return condition instanceof BinaryTree test && test.getKind() == Kind.LESS_THAN
            && test.getLeftOperand().toString().equals(name)
            && test.getRightOperand().getKind() == Kind.IDENTIFIER
            && isIncrement(loop.getUpdate().get(0), name)
            && !sets(loop.getStatement(), name)
            && !sets(loop.getStatement(), test.getRightOperand().toString());
    }

    private static boolean isIncrement(ExpressionStatementTree update, String name) {
        return update.getExpression() instanceof UnaryTree step && step.getKind() == Kind.POSTFIX_INCREMENT
            && step.getExpression().toString().equals(name);
    }

    /** Whether the statement, or a method that it calls, gives the variable a value. */
    private static boolean sets(Tree statement, String name) {
        for (Tree node : nodes(statement)) {
            if (name.equals(variableSet(node))) {
                return true;
            }
        }
        for (String called : calls(statement)) {
            for (MethodTree method : METHODS) {
                if (nameOf(method).equals(called) && isField(name) && sets(method.getBody(), name)) {
                    return true;
                }
            }
        }
        return false;
    }

    private static boolean isField(String name) {
        return FIELDS.stream().anyMatch(field -> field.getName().contentEquals(name));
    }

    private static String variableSet(Tree node) {
        if (node instanceof AssignmentTree assignment) {
            return assignment.getVariable().toString();
        }
        if (node instanceof CompoundAssignmentTree assignment) {
            return assignment.getVariable().toString();
        }
        boolean isStep = node.getKind() == Kind.POSTFIX_INCREMENT || node.getKind() == Kind.POSTFIX_DECREMENT
            || node.getKind() == Kind.PREFIX_INCREMENT || node.getKind() == Kind.PREFIX_DECREMENT;
        return isStep ? ((UnaryTree) node).getExpression().toString() : "";
    }

    private static void parameters() {
        for (MethodTree method : METHODS) {
            Check.due(nameOf(method) + " takes more than seven parameters", method.getParameters().size() > 7, false);
        }
    }

    private static void noCallInArguments() {
        dueNone("a call inside the arguments of a call", program,
            node -> node instanceof MethodInvocationTree call && call.getArguments().stream().anyMatch(argument -> !calls(argument).isEmpty()));
    }

    private static void methodsAreShort() {
        for (MethodTree method : METHODS) {
            long last = unit.getLineMap().getLineNumber(positions.getEndPosition(unit, method));
            Check.due(nameOf(method) + " has more than sixty lines", last - lineOf(method) + 1 > 60, false);
        }
    }

    private static void callDepth() {
        for (String name : CALLED.keySet()) {
            Set<String> level = Set.of(name);
            int depth = 0;
            while (!level.isEmpty() && depth < 7) {
                Set<String> below = new TreeSet<>();
                for (String caller : level) {
                    below.addAll(CALLED.getOrDefault(caller, Set.of()));
                }
                level = below;
                depth++;
            }
            Check.due("calls from " + name + " go deeper than six", depth > 6, false);
        }
    }

    private static void fieldCount() {
        long changing = FIELDS.stream().filter(field -> !has(field, Modifier.STATIC)).count();
        Check.due("fields beside the constants are more than forty", changing > 40, false);
    }
}
