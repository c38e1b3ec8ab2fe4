import com.sun.source.tree.ArrayAccessTree;
import com.sun.source.tree.AssignmentTree;
import com.sun.source.tree.BinaryTree;
import com.sun.source.tree.BlockTree;
import com.sun.source.tree.ClassTree;
import com.sun.source.tree.CompilationUnitTree;
import com.sun.source.tree.CompoundAssignmentTree;
import com.sun.source.tree.ForLoopTree;
import com.sun.source.tree.IdentifierTree;
import com.sun.source.tree.LiteralTree;
import com.sun.source.tree.MemberSelectTree;
import com.sun.source.tree.MethodInvocationTree;
import com.sun.source.tree.MethodTree;
import com.sun.source.tree.NewArrayTree;
import com.sun.source.tree.Tree;
import com.sun.source.tree.Tree.Kind;
import com.sun.source.tree.TypeCastTree;
import com.sun.source.tree.UnaryTree;
import com.sun.source.tree.VariableTree;
import com.sun.source.util.JavacTask;
import com.sun.source.util.TreePath;
import com.sun.source.util.TreePathScanner;
import com.sun.source.util.TreeScanner;
import com.sun.source.util.Trees;
import java.nio.file.Path;
import java.util.ArrayList;
import java.util.EnumSet;
import java.util.HashMap;
import java.util.HashSet;
import java.util.List;
import java.util.Map;
import java.util.Set;
import java.util.TreeSet;
import javax.lang.model.element.Modifier;
import javax.tools.JavaCompiler;
import javax.tools.StandardJavaFileManager;
import javax.tools.ToolProvider;

/**
 * The rules of LANGUAGE.md that the source shows. Where a rule is hard to see from outside, the test
 * asks for more than the rule does: so arrays are indexed and nothing else, and loops are for loops.
 */
public final class LanguageTest extends TreePathScanner<Void, Void> {
    private static final Path SOURCE = Path.of("src", "main", "java", "SearchMachine.java");
    private static final Set<String> NUMBERS = Set.of("int", "long", "short", "byte", "char", "boolean");
    private static final Set<Kind> FORBIDDEN = EnumSet.of(Kind.THROW, Kind.TRY, Kind.CATCH, Kind.SYNCHRONIZED,
        Kind.ASSERT, Kind.INSTANCE_OF, Kind.LAMBDA_EXPRESSION, Kind.MEMBER_REFERENCE, Kind.NEW_CLASS,
        Kind.ANNOTATION, Kind.WHILE_LOOP, Kind.DO_WHILE_LOOP, Kind.ENHANCED_FOR_LOOP);
    private static final Set<Kind> LITERALS = EnumSet.of(Kind.INT_LITERAL, Kind.LONG_LITERAL,
        Kind.CHAR_LITERAL, Kind.BOOLEAN_LITERAL);
    private static final Set<Kind> COMPARISONS = EnumSet.of(Kind.LESS_THAN, Kind.LESS_THAN_EQUAL,
        Kind.GREATER_THAN, Kind.GREATER_THAN_EQUAL);
    private static final int MAX_LINES = 60;
    private static final int MAX_DEPTH = 6;
    private static final int MAX_FIELDS = 40;

    private final Map<String, Set<String>> calls = new HashMap<>();
    private final Set<String> constants = new HashSet<>();
    private final Set<String> arrays = new HashSet<>();
    private CompilationUnitTree unit;
    private Trees trees;
    private String method = "";

    public static void main(String[] args) throws Exception {
        new LanguageTest().run();
        Checks.end("LanguageTest");
    }

    private void run() throws Exception {
        JavaCompiler compiler = ToolProvider.getSystemJavaCompiler();
        try (StandardJavaFileManager files = compiler.getStandardFileManager(null, null, null)) {
            JavacTask task = (JavacTask) compiler.getTask(null, files, null, List.of("-proc:none"), null,
                files.getJavaFileObjects(SOURCE));
            trees = Trees.instance(task);
            unit = task.parse().iterator().next();
            theFile();
            scan(new TreePath(unit), null);
            theCalls();
        }
    }

    private void theFile() {
        Checks.about("Rules 1 and 3: one class, no package line, nothing imported");
        Checks.due("classes", unit.getTypeDecls().size(), 1);
        Checks.holds("no package", unit.getPackage() == null);
        Checks.due("imports", unit.getImports().size(), 0);
        int fields = 0;
        for (Tree member : ((ClassTree) unit.getTypeDecls().get(0)).getMembers()) {
            if (member instanceof VariableTree field) {
                noteField(field);
                fields += isConstant(field) ? 0 : 1;
            } else if (member instanceof MethodTree one) {
                Checks.holds(one.getName() + " has a name that no other method has",
                    calls.put(one.getName().toString(), new TreeSet<>()) == null);
            } else {
                Checks.holds("a member is a field or a method: " + member, false);
            }
        }
        Checks.about("Rule 10: some forty fields beside the constants");
        Checks.holds(fields + " fields", fields <= MAX_FIELDS);
        Checks.about("Rules of LANGUAGE.md, line by line");
    }

    private void noteField(VariableTree field) {
        if (isConstant(field)) {
            constants.add(field.getName().toString());
        }
        if (isArray(field)) {
            arrays.add(field.getName().toString());
            Checks.holds("array field " + field.getName() + " is final", isMarked(field, Modifier.FINAL));
        }
    }

    private static boolean isMarked(VariableTree variable, Modifier modifier) {
        return variable.getModifiers().getFlags().contains(modifier);
    }

    private static boolean isConstant(VariableTree variable) {
        return isMarked(variable, Modifier.STATIC) && isMarked(variable, Modifier.FINAL);
    }

    private static boolean isArray(VariableTree variable) {
        return variable.getType().toString().endsWith("[]");
    }

    @Override
    public Void scan(Tree tree, Void nothing) {
        if (tree != null) {
            dueRule("3, 4, 6 or 8", "no " + tree.getKind(), tree, !FORBIDDEN.contains(tree.getKind()));
        }
        return super.scan(tree, nothing);
    }

    private void dueRule(String rule, String what, Tree tree, boolean is) {
        long place = trees.getSourcePositions().getStartPosition(unit, tree);
        // The compiler's own additions have no place in the file.
        long line = place < 0 ? 0 : unit.getLineMap().getLineNumber(place);
        Checks.holds("rule " + rule + ", line " + line + ": " + what, is);
    }

    @Override
    public Void visitMethod(MethodTree tree, Void nothing) {
        method = tree.getName().toString();
        dueRule("10", method + " takes at most seven parameters", tree, tree.getParameters().size() <= 7);
        dueRule("10", method + " is short", tree, linesOf(tree) <= MAX_LINES);
        String answer = tree.getReturnType() == null ? "void" : tree.getReturnType().toString();
        dueRule("2 and 4", method + " answers a number or nothing", tree,
            answer.equals("void") || NUMBERS.contains(answer));
        super.visitMethod(tree, nothing);
        method = "";
        return null;
    }

    private long linesOf(MethodTree tree) {
        long first = trees.getSourcePositions().getStartPosition(unit, tree);
        long last = trees.getSourcePositions().getEndPosition(unit, tree);
        return unit.getLineMap().getLineNumber(last) - unit.getLineMap().getLineNumber(first) + 1;
    }

    @Override
    public Void visitVariable(VariableTree tree, Void nothing) {
        String type = tree.getType().toString();
        String element = isArray(tree) ? type.substring(0, type.length() - 2) : type;
        dueRule("2", tree.getName() + " is a number or an array of numbers", tree, NUMBERS.contains(element));
        if (isMarked(tree, Modifier.STATIC)) {
            dueRule("5", tree.getName() + " is a constant of int or long", tree,
                isConstant(tree) && (type.equals("int") || type.equals("long"))
                    && isConstantValue(tree.getInitializer()));
        }
        if (isArray(tree)) {
            arrays.add(tree.getName().toString());
        }
        return super.visitVariable(tree, nothing);
    }

    private boolean isConstantValue(Tree tree) {
        if (tree instanceof UnaryTree unary) {
            return unary.getKind() == Kind.UNARY_MINUS && isConstantValue(unary.getExpression());
        }
        if (tree instanceof BinaryTree binary) {
            return isConstantValue(binary.getLeftOperand()) && isConstantValue(binary.getRightOperand());
        }
        return tree instanceof LiteralTree
            || tree instanceof IdentifierTree name && constants.contains(name.getName().toString());
    }

    @Override
    public Void visitLiteral(LiteralTree tree, Void nothing) {
        dueRule("2", tree + " is a whole number or a boolean", tree, LITERALS.contains(tree.getKind()));
        return super.visitLiteral(tree, nothing);
    }

    @Override
    public Void visitMemberSelect(MemberSelectTree tree, Void nothing) {
        dueRule("3", tree + " is of this object", tree, tree.getExpression().toString().equals("this"));
        return super.visitMemberSelect(tree, nothing);
    }

    @Override
    public Void visitNewArray(NewArrayTree tree, Void nothing) {
        dueRule("4", "an array is made in a field's initialiser", tree, method.isEmpty()
            && getCurrentPath().getParentPath().getLeaf() instanceof VariableTree);
        dueRule("4", "its length is a constant", tree, tree.getInitializers() == null
            && tree.getDimensions().size() == 1 && isConstantValue(tree.getDimensions().get(0)));
        return super.visitNewArray(tree, nothing);
    }

    @Override
    public Void visitIdentifier(IdentifierTree tree, Void nothing) {
        if (arrays.contains(tree.getName().toString())) {
            Tree parent = getCurrentPath().getParentPath().getLeaf();
            dueRule("4", "the array " + tree + " is indexed", tree,
                parent instanceof ArrayAccessTree access && access.getExpression() == tree);
        }
        return super.visitIdentifier(tree, nothing);
    }

    @Override
    public Void visitTypeCast(TypeCastTree tree, Void nothing) {
        dueRule("6", tree + " is a cast between numbers", tree, NUMBERS.contains(tree.getType().toString()));
        return super.visitTypeCast(tree, nothing);
    }

    @Override
    public Void visitBlock(BlockTree tree, Void nothing) {
        dueRule("5", "a block stands in a method", tree, !method.isEmpty());
        return super.visitBlock(tree, nothing);
    }

    @Override
    public Void visitForLoop(ForLoopTree tree, Void nothing) {
        List<String> counters = new ArrayList<>();
        for (Tree start : tree.getInitializer()) {
            if (start instanceof VariableTree counter) {
                counters.add(counter.getName().toString());
            }
        }
        dueRule("8", "a loop has a counter of its own", tree, counters.size() == 1);
        dueRule("8", "its counter stands against a bound", tree, tree.getCondition() instanceof BinaryTree condition
            && COMPARISONS.contains(condition.getKind())
            && counters.contains(condition.getLeftOperand().toString()));
        dueRule("8", "its counter moves once in each round", tree, tree.getUpdate().size() == 1);
        Set<String> changed = new HashSet<>();
        new Changes().scan(tree.getStatement(), changed);
        dueRule("8", "its body leaves the counter alone", tree, counters.stream().noneMatch(changed::contains));
        return super.visitForLoop(tree, nothing);
    }

    /** The names that a part of the program gives new values to. */
    private static final class Changes extends TreeScanner<Set<String>, Set<String>> {
        private static final Set<Kind> MOVES = EnumSet.of(Kind.PREFIX_INCREMENT, Kind.PREFIX_DECREMENT,
            Kind.POSTFIX_INCREMENT, Kind.POSTFIX_DECREMENT);

        @Override
        public Set<String> visitAssignment(AssignmentTree tree, Set<String> names) {
            names.add(tree.getVariable().toString());
            return super.visitAssignment(tree, names);
        }

        @Override
        public Set<String> visitCompoundAssignment(CompoundAssignmentTree tree, Set<String> names) {
            names.add(tree.getVariable().toString());
            return super.visitCompoundAssignment(tree, names);
        }

        @Override
        public Set<String> visitUnary(UnaryTree tree, Set<String> names) {
            if (MOVES.contains(tree.getKind())) {
                names.add(tree.getExpression().toString());
            }
            return super.visitUnary(tree, names);
        }
    }

    @Override
    public Void visitMethodInvocation(MethodInvocationTree tree, Void nothing) {
        String called = tree.getMethodSelect().toString();
        dueRule("3", called + " is a method of the class", tree, calls.containsKey(called));
        calls.get(method).add(called);
        for (Tree around : getCurrentPath().getParentPath()) {
            dueRule("10", called + " is called outside another call", tree, !(around instanceof MethodInvocationTree));
        }
        return super.visitMethodInvocation(tree, nothing);
    }

    private void theCalls() {
        Checks.about("Rules 8 and 10: no recursion, and calls at most six deep");
        for (String one : calls.keySet()) {
            int depth = 0;
            Set<String> front = Set.of(one);
            // Each round goes one call deeper; a recursion never comes to an empty round.
            while (!front.isEmpty() && depth <= calls.size()) {
                Set<String> next = new TreeSet<>();
                front.forEach(name -> next.addAll(calls.getOrDefault(name, Set.of())));
                front = next;
                depth++;
            }
            Checks.holds(one + " goes " + depth + " deep", depth <= MAX_DEPTH);
        }
    }
}
