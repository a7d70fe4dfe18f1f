import com.sun.source.tree.ArrayAccessTree;
import com.sun.source.tree.ArrayTypeTree;
import com.sun.source.tree.AssignmentTree;
import com.sun.source.tree.BinaryTree;
import com.sun.source.tree.ClassTree;
import com.sun.source.tree.CompilationUnitTree;
import com.sun.source.tree.CompoundAssignmentTree;
import com.sun.source.tree.ExpressionTree;
import com.sun.source.tree.ForLoopTree;
import com.sun.source.tree.IdentifierTree;
import com.sun.source.tree.MethodInvocationTree;
import com.sun.source.tree.MethodTree;
import com.sun.source.tree.NewArrayTree;
import com.sun.source.tree.PrimitiveTypeTree;
import com.sun.source.tree.Tree;
import com.sun.source.tree.Tree.Kind;
import com.sun.source.tree.UnaryTree;
import com.sun.source.tree.VariableTree;
import com.sun.source.util.JavacTask;
import com.sun.source.util.SourcePositions;
import com.sun.source.util.TreePath;
import com.sun.source.util.TreePathScanner;
import com.sun.source.util.TreeScanner;
import com.sun.source.util.Trees;
import java.io.IOException;
import java.net.URI;
import java.util.ArrayList;
import java.util.EnumSet;
import java.util.HashMap;
import java.util.HashSet;
import java.util.List;
import java.util.Map;
import java.util.Set;
import java.util.TreeSet;
import javax.lang.model.element.Modifier;
import javax.lang.model.element.VariableElement;
import javax.lang.model.type.TypeKind;
import javax.tools.JavaFileObject;
import javax.tools.SimpleJavaFileObject;
import javax.tools.ToolProvider;

/**
 * Looks for breaches of ../shared/LANGUAGE.md in a source; each is told as "rule n: what, line".
 *
 * It is narrower than the rules where that is simpler to see: loops are counting for-loops, and an
 * array is used by its elements alone. Rule 7 (no call throws) is not seen from the text; the tests
 * that make calls stand for it.
 */
final class Language extends TreePathScanner<Void, Void> {
    private static final int MOST_PARAMETERS = 7;
    private static final int MOST_LINES = 60;
    private static final int DEEPEST_CALLS = 6;
    private static final int MOST_FIELDS = 40;

    private static final Set<Kind> ALLOWED = EnumSet.of(
            Kind.COMPILATION_UNIT, Kind.CLASS, Kind.MODIFIERS, Kind.METHOD, Kind.VARIABLE,
            Kind.PRIMITIVE_TYPE, Kind.ARRAY_TYPE, Kind.NEW_ARRAY, Kind.BLOCK, Kind.IF, Kind.FOR_LOOP,
            Kind.BREAK, Kind.CONTINUE, Kind.RETURN, Kind.EXPRESSION_STATEMENT, Kind.EMPTY_STATEMENT,
            Kind.CONDITIONAL_EXPRESSION, Kind.PARENTHESIZED, Kind.IDENTIFIER, Kind.INT_LITERAL,
            Kind.LONG_LITERAL, Kind.BOOLEAN_LITERAL, Kind.CHAR_LITERAL, Kind.ARRAY_ACCESS,
            Kind.METHOD_INVOCATION, Kind.TYPE_CAST, Kind.ASSIGNMENT,
            Kind.PLUS_ASSIGNMENT, Kind.MINUS_ASSIGNMENT, Kind.MULTIPLY_ASSIGNMENT,
            Kind.POSTFIX_INCREMENT, Kind.POSTFIX_DECREMENT, Kind.PREFIX_INCREMENT, Kind.PREFIX_DECREMENT,
            Kind.UNARY_MINUS, Kind.UNARY_PLUS, Kind.BITWISE_COMPLEMENT, Kind.LOGICAL_COMPLEMENT,
            Kind.MULTIPLY, Kind.DIVIDE, Kind.REMAINDER, Kind.PLUS, Kind.MINUS,
            Kind.LEFT_SHIFT, Kind.RIGHT_SHIFT, Kind.UNSIGNED_RIGHT_SHIFT, Kind.AND, Kind.XOR, Kind.OR,
            Kind.LESS_THAN, Kind.GREATER_THAN, Kind.LESS_THAN_EQUAL, Kind.GREATER_THAN_EQUAL,
            Kind.EQUAL_TO, Kind.NOT_EQUAL_TO, Kind.CONDITIONAL_AND, Kind.CONDITIONAL_OR);
    private static final Set<Kind> STEPS_UP = EnumSet.of(Kind.POSTFIX_INCREMENT, Kind.PREFIX_INCREMENT);
    private static final Set<Kind> STEPS_DOWN = EnumSet.of(Kind.POSTFIX_DECREMENT, Kind.PREFIX_DECREMENT);
    private static final Set<Kind> BELOW = EnumSet.of(Kind.LESS_THAN, Kind.LESS_THAN_EQUAL);
    private static final Set<Kind> ABOVE = EnumSet.of(Kind.GREATER_THAN, Kind.GREATER_THAN_EQUAL);
    private static final Set<TypeKind> NUMBERS = EnumSet.of(TypeKind.INT, TypeKind.LONG, TypeKind.SHORT,
            TypeKind.BYTE, TypeKind.CHAR, TypeKind.BOOLEAN);

    private final CompilationUnitTree unit;
    private final Trees trees;
    private final List<String> faults = new ArrayList<>();
    private final Map<String, Set<String>> calls = new HashMap<>();
    private final Set<String> publicNames = new HashSet<>();
    private final Set<String> arrayFields = new HashSet<>();
    private final Set<String> constants = new HashSet<>();

    private Language(CompilationUnitTree unit, Trees trees) {
        this.unit = unit;
        this.trees = trees;
    }

    /** The breaches in a source of the class BvhTracer. */
    static List<String> faultsIn(String source) throws IOException {
        JavaFileObject file = new SimpleJavaFileObject(URI.create("mem:///BvhTracer.java"), JavaFileObject.Kind.SOURCE) {
            @Override
            public CharSequence getCharContent(boolean ignored) {
                return source;
            }
        };
        List<String> errors = new ArrayList<>();
        JavacTask task = (JavacTask) ToolProvider.getSystemJavaCompiler().getTask(null, null,
                told -> errors.add("does not compile: " + told), List.of("-proc:none"), null, List.of(file));
        CompilationUnitTree unit = task.parse().iterator().next();
        task.analyze();
        Language language = new Language(unit, Trees.instance(task));
        language.scan(unit, null);
        language.faults.addAll(errors);
        return language.faults;
    }

    private void fault(int rule, String what, Tree where) {
        long place = trees.getSourcePositions().getStartPosition(unit, where);
        long line = place < 0 ? 0 : unit.getLineMap().getLineNumber(place);
        faults.add("rule " + rule + ": " + what + ", line " + line);
    }

    private static boolean has(Set<Modifier> modifiers, Modifier wanted) {
        return modifiers.contains(wanted);
    }

    private boolean isField(TreePath path) {
        return path.getParentPath().getLeaf() instanceof ClassTree;
    }

    /** The method that stands around what is being looked at, or "" for a field's initialiser. */
    private String methodAround() {
        for (TreePath path = getCurrentPath(); path != null; path = path.getParentPath()) {
            if (path.getLeaf() instanceof MethodTree method) {
                return method.getName().toString();
            }
        }
        return "";
    }

    /** The compiler puts in some trees of its own, such as the call of super() in a constructor. */
    private boolean isWritten(Tree tree) {
        SourcePositions places = trees.getSourcePositions();
        return places.getEndPosition(unit, tree) > places.getStartPosition(unit, tree);
    }

    @Override
    public Void scan(Tree tree, Void nothing) {
        if (tree == null || tree.getKind() == Kind.EXPRESSION_STATEMENT && !isWritten(tree)) {
            return null;
        }
        if (!ALLOWED.contains(tree.getKind())) {
            fault(ruleAgainst(tree.getKind()), tree.getKind() + " is not used", tree);
        }
        return super.scan(tree, nothing);
    }

    private static int ruleAgainst(Kind kind) {
        return switch (kind) {
            case INTERFACE, ENUM, RECORD, ANNOTATION_TYPE, PACKAGE -> 1;
            case STRING_LITERAL, FLOAT_LITERAL, DOUBLE_LITERAL, PARAMETERIZED_TYPE -> 2;
            case IMPORT, MEMBER_SELECT -> 3;
            case NEW_CLASS, NULL_LITERAL -> 4;
            case WHILE_LOOP, DO_WHILE_LOOP, ENHANCED_FOR_LOOP -> 8;
            default -> 6;
        };
    }

    @Override
    public Void visitCompilationUnit(CompilationUnitTree tree, Void nothing) {
        if (tree.getTypeDecls().size() != 1) {
            fault(1, "there is more than one class", tree);
        }
        super.visitCompilationUnit(tree, nothing);
        for (String method : new TreeSet<>(calls.keySet())) {
            judgeCalls(method, tree);
        }
        return null;
    }

    @Override
    public Void visitClass(ClassTree tree, Void nothing) {
        Set<Modifier> modifiers = tree.getModifiers().getFlags();
        if (!(getCurrentPath().getParentPath().getLeaf() instanceof CompilationUnitTree)) {
            fault(1, "a nested class", tree);
        } else if (!has(modifiers, Modifier.PUBLIC) || !has(modifiers, Modifier.FINAL)) {
            fault(1, "the class is not public and final", tree);
        }
        int fields = 0;
        for (Tree member : tree.getMembers()) {
            fields += noteMember(member);
        }
        if (fields > MOST_FIELDS) {
            fault(10, fields + " fields", tree);
        }
        return super.visitClass(tree, nothing);
    }

    /** Names must be known before the first method is looked at; answers 1 for a field that is no constant. */
    private int noteMember(Tree member) {
        if (member instanceof MethodTree method && has(method.getModifiers().getFlags(), Modifier.PUBLIC)) {
            publicNames.add(method.getName().toString());
        }
        if (member.getKind() == Kind.BLOCK) {
            fault(5, "an initialiser block", member);
        }
        if (!(member instanceof VariableTree field)) {
            return 0;
        }
        String name = field.getName().toString();
        if (has(field.getModifiers().getFlags(), Modifier.STATIC)) {
            constants.add(name);
            return 0;
        }
        if (field.getType() instanceof ArrayTypeTree) {
            arrayFields.add(name);
        }
        return 1;
    }

    @Override
    public Void visitMethod(MethodTree tree, Void nothing) {
        String name = tree.getName().toString();
        Set<Modifier> modifiers = tree.getModifiers().getFlags();
        calls.putIfAbsent(name, new TreeSet<>());
        if (!has(modifiers, Modifier.PUBLIC) && !has(modifiers, Modifier.PRIVATE)) {
            fault(1, name + " is neither public nor private", tree);
        }
        if (has(modifiers, Modifier.PRIVATE) && publicNames.contains(name)) {
            fault(1, "private " + name + " bears a public name", tree);
        }
        if (has(modifiers, Modifier.SYNCHRONIZED) || !tree.getThrows().isEmpty()) {
            fault(6, name + " is synchronized or throws", tree);
        }
        if (tree.getReturnType() != null && !(tree.getReturnType() instanceof PrimitiveTypeTree)) {
            fault(4, name + " answers no number", tree);
        }
        if (tree.getParameters().size() > MOST_PARAMETERS) {
            fault(10, name + " takes too many parameters", tree);
        }
        if (linesOf(tree) > MOST_LINES) {
            fault(10, name + " is too long", tree);
        }
        return super.visitMethod(tree, nothing);
    }

    private long linesOf(MethodTree tree) {
        SourcePositions places = trees.getSourcePositions();
        long first = unit.getLineMap().getLineNumber(places.getStartPosition(unit, tree));
        return unit.getLineMap().getLineNumber(places.getEndPosition(unit, tree)) - first + 1;
    }

    @Override
    public Void visitVariable(VariableTree tree, Void nothing) {
        Tree type = tree.getType();
        boolean isArray = type instanceof ArrayTypeTree;
        Tree element = isArray ? ((ArrayTypeTree) type).getType() : type;
        if (!(element instanceof PrimitiveTypeTree)) {
            fault(2, tree.getName() + " is neither a number nor a row of numbers", tree);
        }
        if (isField(getCurrentPath())) {
            judgeField(tree, isArray);
        } else if (isArray) {
            fault(4, tree.getName() + " names an array in a method", tree);
        }
        return super.visitVariable(tree, nothing);
    }

    private void judgeField(VariableTree tree, boolean isArray) {
        Set<Modifier> modifiers = tree.getModifiers().getFlags();
        if (!has(modifiers, Modifier.PRIVATE)) {
            fault(1, "field " + tree.getName() + " is not private", tree);
        }
        if (has(modifiers, Modifier.STATIC)) {
            judgeConstant(tree);
        } else if (isArray && !(has(modifiers, Modifier.FINAL) && tree.getInitializer() instanceof NewArrayTree)) {
            fault(4, "array " + tree.getName() + " is not made where it is declared, for good", tree);
        }
    }

    private void judgeConstant(VariableTree tree) {
        VariableElement element = (VariableElement) trees.getElement(getCurrentPath());
        Object value = element.getConstantValue();
        if (!(value instanceof Integer) && !(value instanceof Long)) {
            fault(5, tree.getName() + " is static but no constant of int or long", tree);
        }
    }

    @Override
    public Void visitPrimitiveType(PrimitiveTypeTree tree, Void nothing) {
        TypeKind kind = tree.getPrimitiveTypeKind();
        if (kind != TypeKind.VOID && !NUMBERS.contains(kind)) {
            fault(2, "a " + kind, tree);
        }
        return super.visitPrimitiveType(tree, nothing);
    }

    @Override
    public Void visitNewArray(NewArrayTree tree, Void nothing) {
        TreePath parent = getCurrentPath().getParentPath();
        if (!(parent.getLeaf() instanceof VariableTree) || !isField(parent)) {
            fault(4, "an array is made outside a field's initialiser", tree);
        }
        if (tree.getInitializers() != null || tree.getDimensions().size() != 1) {
            fault(4, "an array is not made by one length", tree);
            return super.visitNewArray(tree, nothing);
        }
        ExpressionTree length = tree.getDimensions().get(0);
        boolean isConstant = length instanceof IdentifierTree name && constants.contains(name.getName().toString());
        if (!isConstant && length.getKind() != Kind.INT_LITERAL || length.toString().equals("0")) {
            fault(4, "an array's length is no literal or constant of 1 or more", tree);
        }
        return super.visitNewArray(tree, nothing);
    }

    @Override
    public Void visitIdentifier(IdentifierTree tree, Void nothing) {
        String name = tree.getName().toString();
        Tree parent = getCurrentPath().getParentPath().getLeaf();
        boolean isElement = parent instanceof ArrayAccessTree access && access.getExpression() == tree;
        if (arrayFields.contains(name) && !isElement) {
            fault(4, "array " + name + " is used as a whole", tree);
        }
        return super.visitIdentifier(tree, nothing);
    }

    @Override
    public Void visitForLoop(ForLoopTree tree, Void nothing) {
        String counter = counterOf(tree);
        if (counter.isEmpty()) {
            fault(8, "a loop does not count against a bound", tree);
        } else {
            judgeCounter(counter, tree);
        }
        return super.visitForLoop(tree, nothing);
    }

    /** The name that the loop counts up or down by one to a bound, or "". */
    private static String counterOf(ForLoopTree tree) {
        boolean hasOneStep = tree.getInitializer().size() == 1 && tree.getUpdate().size() == 1;
        if (!hasOneStep || !(tree.getCondition() instanceof BinaryTree condition)
                || !(tree.getInitializer().get(0) instanceof VariableTree counter)
                || !(tree.getUpdate().get(0).getExpression() instanceof UnaryTree step)) {
            return "";
        }
        String name = counter.getName().toString();
        boolean isUp = BELOW.contains(condition.getKind()) && STEPS_UP.contains(step.getKind());
        boolean isDown = ABOVE.contains(condition.getKind()) && STEPS_DOWN.contains(step.getKind());
        boolean isCounted = condition.getLeftOperand().toString().equals(name)
                && step.getExpression().toString().equals(name);
        return isCounted && (isUp || isDown) ? name : "";
    }

    /** Neither the counter nor a name in its bound is written to inside the loop. */
    private void judgeCounter(String counter, ForLoopTree loop) {
        Set<String> fixed = new HashSet<>(Set.of(counter));
        BinaryTree condition = (BinaryTree) loop.getCondition();
        new Names(fixed).scan(condition.getRightOperand(), null);
        Set<String> written = new HashSet<>();
        new Writes(written).scan(loop.getStatement(), null);
        written.retainAll(fixed);
        if (!written.isEmpty()) {
            fault(8, "a loop writes to " + written + " that it counts with", loop);
        }
    }

    @Override
    public Void visitMethodInvocation(MethodInvocationTree tree, Void nothing) {
        String name = tree.getMethodSelect().toString();
        calls.computeIfAbsent(methodAround(), key -> new TreeSet<>()).add(name);
        for (ExpressionTree argument : tree.getArguments()) {
            if (holdsCall(argument)) {
                fault(10, "a call stands inside the arguments of " + name, tree);
            }
        }
        return super.visitMethodInvocation(tree, nothing);
    }

    private static boolean holdsCall(ExpressionTree tree) {
        boolean[] found = {false};
        new TreeScanner<Void, Void>() {
            @Override
            public Void visitMethodInvocation(MethodInvocationTree call, Void nothing) {
                found[0] = true;
                return null;
            }
        }.scan(tree, null);
        return found[0];
    }

    private void judgeCalls(String method, Tree where) {
        for (String called : calls.get(method)) {
            if (!calls.containsKey(called)) {
                fault(3, method + " calls " + called + " that is not in the class", where);
            }
        }
        int depth = depthFrom(method, new HashSet<>());
        if (depth == Integer.MAX_VALUE) {
            fault(8, method + " comes back to itself or calls one that does", where);
        } else if (depth > DEEPEST_CALLS) {
            fault(10, method + " goes " + depth + " calls deep", where);
        }
    }

    private int depthFrom(String method, Set<String> above) {
        if (!above.add(method)) {
            return Integer.MAX_VALUE;
        }
        int deepest = 0;
        for (String called : calls.getOrDefault(method, Set.of())) {
            deepest = Math.max(deepest, depthFrom(called, above));
        }
        above.remove(method);
        return deepest == Integer.MAX_VALUE ? deepest : deepest + 1;
    }

    /** Gathers the names in an expression. */
    private static final class Names extends TreeScanner<Void, Void> {
        private final Set<String> found;

        Names(Set<String> found) {
            this.found = found;
        }

        @Override
        public Void visitIdentifier(IdentifierTree tree, Void nothing) {
            found.add(tree.getName().toString());
            return null;
        }
    }

    /** Gathers the names that are written to. */
    private static final class Writes extends TreeScanner<Void, Void> {
        private final Set<String> found;

        Writes(Set<String> found) {
            this.found = found;
        }

        @Override
        public Void visitAssignment(AssignmentTree tree, Void nothing) {
            found.add(tree.getVariable().toString());
            return super.visitAssignment(tree, nothing);
        }

        @Override
        public Void visitCompoundAssignment(CompoundAssignmentTree tree, Void nothing) {
            found.add(tree.getVariable().toString());
            return super.visitCompoundAssignment(tree, nothing);
        }

        @Override
        public Void visitUnary(UnaryTree tree, Void nothing) {
            if (STEPS_UP.contains(tree.getKind()) || STEPS_DOWN.contains(tree.getKind())) {
                found.add(tree.getExpression().toString());
            }
            return super.visitUnary(tree, nothing);
        }
    }
}
