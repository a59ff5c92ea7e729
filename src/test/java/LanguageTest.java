import com.sun.source.tree.ArrayAccessTree;
import com.sun.source.tree.ArrayTypeTree;
import com.sun.source.tree.AssignmentTree;
import com.sun.source.tree.BinaryTree;
import com.sun.source.tree.ClassTree;
import com.sun.source.tree.CompilationUnitTree;
import com.sun.source.tree.CompoundAssignmentTree;
import com.sun.source.tree.ExpressionTree;
import com.sun.source.tree.ForLoopTree;
import com.sun.source.tree.IdentifierTree;
import com.sun.source.tree.MethodInvocationTree;
import com.sun.source.tree.MethodTree;
import com.sun.source.tree.NewArrayTree;
import com.sun.source.tree.PrimitiveTypeTree;
import com.sun.source.tree.Tree;
import com.sun.source.tree.UnaryTree;
import com.sun.source.tree.VariableTree;
import com.sun.source.util.JavacTask;
import com.sun.source.util.TreePathScanner;
import com.sun.source.util.TreeScanner;
import com.sun.source.util.Trees;
import java.io.IOException;
import java.nio.file.Path;
import java.util.EnumSet;
import java.util.HashMap;
import java.util.HashSet;
import java.util.Map;
import java.util.Set;
import javax.lang.model.element.Modifier;
import javax.lang.model.type.TypeKind;
import javax.tools.JavaCompiler;
import javax.tools.ToolProvider;

/**
 * The source of the class keeps to LANGUAGE.md, as far as its form can tell. Where a rule leaves more
 * room than the class needs, this test is the stricter one (for is the only loop, arrays are made in
 * the fields alone): it may be widened up to the rule.
 */
public final class LanguageTest extends TreePathScanner<Void, Void> {
    private static final String SOURCE = "src/main/java/PathFamilies.java";
    private static final int MOST_LINES = 60;
    private static final int MOST_FIELDS = 40;
    private static final int MOST_PARAMETERS = 7;
    private static final int DEEPEST_CALLS = 6;

    // What is not named here is not used: no throw, no try, no member of anything, no object, no null.
    private static final Set<Tree.Kind> USED = EnumSet.of(
        Tree.Kind.COMPILATION_UNIT, Tree.Kind.CLASS, Tree.Kind.MODIFIERS, Tree.Kind.VARIABLE, Tree.Kind.METHOD,
        Tree.Kind.PRIMITIVE_TYPE, Tree.Kind.ARRAY_TYPE, Tree.Kind.NEW_ARRAY, Tree.Kind.ARRAY_ACCESS,
        Tree.Kind.BLOCK, Tree.Kind.EXPRESSION_STATEMENT, Tree.Kind.IF, Tree.Kind.FOR_LOOP, Tree.Kind.RETURN,
        Tree.Kind.CONTINUE, Tree.Kind.METHOD_INVOCATION, Tree.Kind.IDENTIFIER, Tree.Kind.PARENTHESIZED,
        Tree.Kind.CONDITIONAL_EXPRESSION, Tree.Kind.INT_LITERAL, Tree.Kind.ASSIGNMENT, Tree.Kind.PLUS_ASSIGNMENT,
        Tree.Kind.MULTIPLY_ASSIGNMENT, Tree.Kind.AND_ASSIGNMENT, Tree.Kind.OR_ASSIGNMENT,
        Tree.Kind.POSTFIX_INCREMENT, Tree.Kind.POSTFIX_DECREMENT, Tree.Kind.LOGICAL_COMPLEMENT,
        Tree.Kind.BITWISE_COMPLEMENT, Tree.Kind.UNARY_MINUS, Tree.Kind.PLUS, Tree.Kind.MINUS, Tree.Kind.MULTIPLY,
        Tree.Kind.LEFT_SHIFT, Tree.Kind.RIGHT_SHIFT, Tree.Kind.AND, Tree.Kind.OR, Tree.Kind.CONDITIONAL_AND,
        Tree.Kind.CONDITIONAL_OR, Tree.Kind.EQUAL_TO, Tree.Kind.NOT_EQUAL_TO, Tree.Kind.LESS_THAN,
        Tree.Kind.LESS_THAN_EQUAL, Tree.Kind.GREATER_THAN, Tree.Kind.GREATER_THAN_EQUAL);
    private static final Set<Tree.Kind> UPWARDS = EnumSet.of(Tree.Kind.LESS_THAN, Tree.Kind.LESS_THAN_EQUAL);
    private static final Set<Tree.Kind> DOWNWARDS =
        EnumSet.of(Tree.Kind.GREATER_THAN, Tree.Kind.GREATER_THAN_EQUAL);

    private final CompilationUnitTree unit;
    private final Trees trees;
    private final Set<String> constants = new HashSet<>();
    private final Set<String> arrays = new HashSet<>();
    private final Set<String> methods = new HashSet<>();
    private final Map<String, Set<String>> callsOf = new HashMap<>();
    private String method = "";
    private int fields = 0;

    private LanguageTest(CompilationUnitTree unit, Trees trees) {
        this.unit = unit;
        this.trees = trees;
    }

    public static void main(String[] args) throws IOException {
        JavaCompiler compiler = ToolProvider.getSystemJavaCompiler();
        var files = compiler.getStandardFileManager(null, null, null);
        JavacTask task = (JavacTask) compiler.getTask(null, files, null, null, null,
            files.getJavaFileObjects(Path.of(SOURCE)));
        CompilationUnitTree unit = task.parse().iterator().next();
        LanguageTest test = new LanguageTest(unit, Trees.instance(task));
        Sentences.holds("LANGUAGE.md", test::read);
        Sentences.finish();
    }

    private void read() {
        check(unit.getPackageName() == null, 0, "there is no package line", unit);
        check(unit.getImports().isEmpty(), 3, "nothing is imported", unit);
        check(unit.getTypeDecls().size() == 1, 1, "there is one class", unit);
        for (Tree member : ((ClassTree) unit.getTypeDecls().get(0)).getMembers()) {
            if (member instanceof MethodTree) methods.add(((MethodTree) member).getName().toString());
            if (member instanceof VariableTree) {
                VariableTree field = (VariableTree) member;
                if (isStatic(field)) constants.add(field.getName().toString());
                if (field.getType() instanceof ArrayTypeTree) arrays.add(field.getName().toString());
            }
            check(!(member instanceof ClassTree), 1, "no nested class", member);
            check(member.getKind() != Tree.Kind.BLOCK, 5, "no initialiser block", member);
        }
        scan(unit, null);
        check(fields <= MOST_FIELDS, 10, "at most " + MOST_FIELDS + " fields", unit);
        for (String name : methods) {
            check(depth(name, 0) <= DEEPEST_CALLS, 8, name + ": no recursion, and calls at most six deep", unit);
        }
    }

    private void check(boolean holds, int rule, String what, Tree where) {
        if (holds) return;
        long start = trees.getSourcePositions().getStartPosition(unit, where);
        Sentences.wrong("line " + unit.getLineMap().getLineNumber(start) + ", rule " + rule + ": " + what);
    }

    private static boolean isStatic(VariableTree variable) {
        return variable.getModifiers().getFlags().contains(Modifier.STATIC);
    }

    private boolean isField() {
        return getCurrentPath().getParentPath().getLeaf() instanceof ClassTree;
    }

    /** How deep calls go from a method; past the bound it stops, as a recursion would never end. */
    private int depth(String name, int above) {
        int deepest = 1;
        for (String called : callsOf.getOrDefault(name, Set.of())) {
            if (above < DEEPEST_CALLS) deepest = Math.max(deepest, 1 + depth(called, above + 1));
        }
        return deepest;
    }

    @Override
    public Void scan(Tree tree, Void nothing) {
        if (tree != null) check(USED.contains(tree.getKind()), 6, tree.getKind() + " is not used", tree);
        return super.scan(tree, nothing);
    }

    @Override
    public Void visitPrimitiveType(PrimitiveTypeTree type, Void nothing) {
        TypeKind kind = type.getPrimitiveTypeKind();
        check(kind != TypeKind.FLOAT && kind != TypeKind.DOUBLE, 2, "no float or double", type);
        return super.visitPrimitiveType(type, nothing);
    }

    @Override
    public Void visitArrayType(ArrayTypeTree array, Void nothing) {
        check(array.getType() instanceof PrimitiveTypeTree, 2, "arrays of numbers, one-dimensional", array);
        return super.visitArrayType(array, nothing);
    }

    @Override
    public Void visitVariable(VariableTree variable, Void nothing) {
        boolean isArray = variable.getType() instanceof ArrayTypeTree;
        check(isArray || variable.getType() instanceof PrimitiveTypeTree, 2, "a number or an array", variable);
        if (isField()) {
            Set<Modifier> flags = variable.getModifiers().getFlags();
            boolean isFinal = flags.contains(Modifier.FINAL);
            if (isArray) check(isFinal && !isStatic(variable), 4, "an array field is final, not static", variable);
            if (isStatic(variable)) {
                String type = variable.getType().toString();
                check(type.equals("int") || type.equals("long"), 5, "a constant is an int or a long", variable);
                check(isFinal && isConstant(variable.getInitializer()), 5, "a constant", variable);
            } else {
                fields++;
            }
        }
        return super.visitVariable(variable, nothing);
    }

    @Override
    public Void visitIdentifier(IdentifierTree name, Void nothing) {
        // Then it is neither compared, nor answered, nor given another name.
        boolean isElement = getCurrentPath().getParentPath().getLeaf() instanceof ArrayAccessTree;
        check(isElement || !arrays.contains(name.toString()), 4, name + " is used by its elements", name);
        return super.visitIdentifier(name, nothing);
    }

    private boolean isConstant(ExpressionTree value) {
        if (value instanceof UnaryTree) return isConstant(((UnaryTree) value).getExpression());
        if (value instanceof BinaryTree) {
            return isConstant(((BinaryTree) value).getLeftOperand())
                && isConstant(((BinaryTree) value).getRightOperand());
        }
        if (value instanceof IdentifierTree) return constants.contains(value.toString());
        return value != null && value.getKind() == Tree.Kind.INT_LITERAL;
    }

    @Override
    public Void visitNewArray(NewArrayTree array, Void nothing) {
        Tree holder = getCurrentPath().getParentPath().getLeaf();
        Tree around = getCurrentPath().getParentPath().getParentPath().getLeaf();
        check(holder instanceof VariableTree && around instanceof ClassTree, 4, "made in a field", array);
        boolean one = array.getDimensions().size() == 1 && array.getInitializers() == null;
        check(one && isConstant(array.getDimensions().get(0)), 4, "its length is a constant", array);
        return super.visitNewArray(array, nothing);
    }

    @Override
    public Void visitMethod(MethodTree tree, Void nothing) {
        method = tree.getName().toString();
        check(tree.getParameters().size() <= MOST_PARAMETERS, 10, "at most seven parameters", tree);
        check(!(tree.getReturnType() instanceof ArrayTypeTree), 4, "no array is answered", tree);
        check(linesOf(tree) <= MOST_LINES, 10, "a method stays short", tree);
        return super.visitMethod(tree, nothing);
    }

    private long linesOf(Tree tree) {
        long first = trees.getSourcePositions().getStartPosition(unit, tree);
        long last = trees.getSourcePositions().getEndPosition(unit, tree);
        return unit.getLineMap().getLineNumber(last) - unit.getLineMap().getLineNumber(first) + 1;
    }

    @Override
    public Void visitMethodInvocation(MethodInvocationTree call, Void nothing) {
        String name = call.getMethodSelect().toString();
        check(methods.contains(name), 3, name + " is a method of the class", call);
        callsOf.computeIfAbsent(method, m -> new HashSet<>()).add(name);
        for (Tree around : getCurrentPath().getParentPath()) {
            check(!(around instanceof MethodInvocationTree), 10, name + " is not called in another's arguments", call);
        }
        return super.visitMethodInvocation(call, nothing);
    }

    @Override
    public Void visitForLoop(ForLoopTree loop, Void nothing) {
        boolean one = loop.getInitializer().size() == 1 && loop.getInitializer().get(0) instanceof VariableTree
            && loop.getUpdate().size() == 1;
        check(one, 8, "one counter", loop);
        if (one) {
            String counter = ((VariableTree) loop.getInitializer().get(0)).getName().toString();
            boolean ends = isBounded(loop, counter, UPWARDS, Tree.Kind.POSTFIX_INCREMENT)
                || isBounded(loop, counter, DOWNWARDS, Tree.Kind.POSTFIX_DECREMENT);
            check(ends, 8, counter + " counts towards a bound", loop);
            check(!isChanged(counter, loop.getStatement()), 8, counter + " is not changed in the loop", loop);
        }
        return super.visitForLoop(loop, nothing);
    }

    private static boolean isBounded(ForLoopTree loop, String counter, Set<Tree.Kind> comparisons, Tree.Kind step) {
        ExpressionTree condition = loop.getCondition();
        ExpressionTree update = loop.getUpdate().get(0).getExpression();
        return condition != null && comparisons.contains(condition.getKind()) && update.getKind() == step
            && ((BinaryTree) condition).getLeftOperand().toString().equals(counter)
            && ((UnaryTree) update).getExpression().toString().equals(counter);
    }

    private static boolean isChanged(String counter, Tree body) {
        boolean[] changed = {false};
        new TreeScanner<Void, Void>() {
            @Override
            public Void scan(Tree tree, Void nothing) {
                Tree target = null;
                if (tree instanceof AssignmentTree) target = ((AssignmentTree) tree).getVariable();
                if (tree instanceof CompoundAssignmentTree) target = ((CompoundAssignmentTree) tree).getVariable();
                // Not every sign before the counter changes it, but the class needs none of them.
                if (tree instanceof UnaryTree) target = ((UnaryTree) tree).getExpression();
                changed[0] |= target != null && target.toString().equals(counter);
                return super.scan(tree, nothing);
            }
        }.scan(body, null);
        return changed[0];
    }
}
