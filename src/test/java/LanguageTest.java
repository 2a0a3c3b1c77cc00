import com.sun.source.tree.AssertTree;
import com.sun.source.tree.ClassTree;
import com.sun.source.tree.CompilationUnitTree;
import com.sun.source.tree.ExpressionTree;
import com.sun.source.tree.IdentifierTree;
import com.sun.source.tree.ImportTree;
import com.sun.source.tree.InstanceOfTree;
import com.sun.source.tree.LambdaExpressionTree;
import com.sun.source.tree.LiteralTree;
import com.sun.source.tree.MemberReferenceTree;
import com.sun.source.tree.MemberSelectTree;
import com.sun.source.tree.MethodInvocationTree;
import com.sun.source.tree.MethodTree;
import com.sun.source.tree.NewArrayTree;
import com.sun.source.tree.NewClassTree;
import com.sun.source.tree.SynchronizedTree;
import com.sun.source.tree.ThrowTree;
import com.sun.source.tree.Tree;
import com.sun.source.tree.TryTree;
import com.sun.source.tree.VariableTree;
import com.sun.source.util.JavacTask;
import com.sun.source.util.SourcePositions;
import com.sun.source.util.TreeScanner;
import com.sun.source.util.Trees;
import java.io.IOException;
import java.util.HashSet;
import java.util.List;
import java.util.Map;
import java.util.Set;
import java.util.TreeMap;
import java.util.TreeSet;
import javax.tools.JavaCompiler;
import javax.tools.StandardJavaFileManager;
import javax.tools.ToolProvider;

/** Those rules of LANGUAGE.md that can be read off the source. Runs in the project's directory. */
public final class LanguageTest extends TreeScanner<Void, Void> {
    private static final String SOURCE = "src/main/java/ManagedRuntime.java";
    private static final Set<String> TYPES = Set.of(
        "int", "long", "short", "byte", "char", "boolean",
        "int[]", "long[]", "short[]", "byte[]", "char[]", "boolean[]");

    private final Due due;
    private final CompilationUnitTree unit;
    private final SourcePositions positions;
    private final Map<String, Set<String>> calls = new TreeMap<>();
    private String method;
    private int argumentDepth;
    private int fields;

    private LanguageTest(Due due, CompilationUnitTree unit, SourcePositions positions) {
        this.due = due;
        this.unit = unit;
        this.positions = positions;
    }

    public static void main(String[] args) throws IOException {
        Due due = new Due();
        JavaCompiler compiler = ToolProvider.getSystemJavaCompiler();
        try (StandardJavaFileManager files = compiler.getStandardFileManager(null, null, null)) {
            JavacTask task = (JavacTask) compiler.getTask(null, files, null, null, null, files.getJavaFileObjects(SOURCE));
            SourcePositions positions = Trees.instance(task).getSourcePositions();
            for (CompilationUnitTree unit : task.parse()) {
                LanguageTest test = new LanguageTest(due, unit, positions);
                test.scan(unit, null);
                test.callDepths();
                due.yes("rule 10: at most 40 fields, not " + test.fields, test.fields <= 40);
            }
        }
        due.end();
    }

    private void refuse(String rule, Tree tree) {
        due.yes(rule + ": line " + line(positions.getStartPosition(unit, tree)) + ": " + tree, false);
    }

    private long line(long position) {
        return unit.getLineMap().getLineNumber(position);
    }

    private void callDepths() {
        for (String name : calls.keySet()) {
            int depth = depthFrom(name, new HashSet<>());
            due.yes("rules 8 and 10: from " + name + " calls go " + depth + " deep", depth <= 6);
        }
    }

    /** How many methods are at work at most, or 1000 if one calls itself. */
    private int depthFrom(String name, Set<String> way) {
        if (!way.add(name)) {
            return 1000;
        }
        int deepest = 0;
        for (String called : calls.getOrDefault(name, Set.of())) {
            deepest = Math.max(deepest, depthFrom(called, way));
        }
        way.remove(name);
        return deepest + 1;
    }

    @Override
    public Void visitClass(ClassTree tree, Void none) {
        due.is("rule 1: the one class, not " + tree.getSimpleName(), tree.getSimpleName().contentEquals("ManagedRuntime") ? 1 : 0, 1);
        due.is("rule 1: nothing above it", tree.getExtendsClause() == null && tree.getImplementsClause().isEmpty() ? 1 : 0, 1);
        return super.visitClass(tree, none);
    }

    @Override
    public Void visitMethod(MethodTree tree, Void none) {
        method = tree.getName().toString();
        due.no("rule 1: a second method " + method, calls.containsKey(method));
        calls.put(method, new TreeSet<>());
        long lines = line(positions.getEndPosition(unit, tree)) - line(positions.getStartPosition(unit, tree)) + 1;
        due.yes("rule 10: " + method + " has " + lines + " lines", lines <= 60);
        due.yes("rule 10: parameters of " + method, tree.getParameters().size() <= 7);
        String type = String.valueOf(tree.getReturnType());
        due.yes("rules 2 and 4: " + method + " answers " + type, !type.endsWith("[]") && (TYPES.contains(type) || type.equals("void") || type.equals("null")));
        super.visitMethod(tree, none);
        method = null;
        return null;
    }

    @Override
    public Void visitVariable(VariableTree tree, Void none) {
        String type = tree.getType().toString();
        due.yes("rule 2: type of " + tree, TYPES.contains(type));
        if (method == null) {
            String flags = tree.getModifiers().getFlags().toString();
            due.yes("rule 5: " + tree, !flags.contains("static") || flags.contains("final") && (type.equals("int") || type.equals("long")));
            fields += flags.contains("static") ? 0 : 1;
        }
        return super.visitVariable(tree, none);
    }

    @Override
    public Void visitMethodInvocation(MethodInvocationTree tree, Void none) {
        ExpressionTree called = tree.getMethodSelect();
        due.yes("rule 3: a call of an own method: " + tree, called instanceof IdentifierTree);
        due.is("rule 10: a call inside arguments: " + tree, argumentDepth, 0);
        if (method != null && !called.toString().equals("super")) {
            calls.get(method).add(called.toString());
        }
        argumentDepth++;
        List<? extends ExpressionTree> arguments = tree.getArguments();
        scan(arguments, none);
        argumentDepth--;
        return null;
    }

    @Override
    public Void visitNewArray(NewArrayTree tree, Void none) {
        due.yes("rule 4: made in a field's initialiser: " + tree, method == null && tree.getInitializers() == null);
        due.is("rule 4: dimensions of " + tree, tree.getDimensions().size(), 1);
        for (ExpressionTree length : tree.getDimensions()) {
            due.yes("rule 4: length of " + tree, length instanceof IdentifierTree || length instanceof LiteralTree);
        }
        return super.visitNewArray(tree, none);
    }

    @Override
    public Void visitLiteral(LiteralTree tree, Void none) {
        due.yes("rules 2 and 4: " + tree, tree.getKind() != Tree.Kind.NULL_LITERAL && tree.getKind() != Tree.Kind.STRING_LITERAL
            && tree.getKind() != Tree.Kind.DOUBLE_LITERAL && tree.getKind() != Tree.Kind.FLOAT_LITERAL);
        return null;
    }

    @Override
    public Void visitMemberSelect(MemberSelectTree tree, Void none) {
        refuse("rule 3", tree);
        return null;
    }

    @Override
    public Void visitImport(ImportTree tree, Void none) {
        refuse("rule 3", tree);
        return null;
    }

    @Override
    public Void visitNewClass(NewClassTree tree, Void none) {
        refuse("rule 4", tree);
        return null;
    }

    @Override
    public Void visitThrow(ThrowTree tree, Void none) {
        refuse("rule 6", tree);
        return null;
    }

    @Override
    public Void visitTry(TryTree tree, Void none) {
        refuse("rule 6", tree);
        return null;
    }

    @Override
    public Void visitSynchronized(SynchronizedTree tree, Void none) {
        refuse("rule 6", tree);
        return null;
    }

    @Override
    public Void visitAssert(AssertTree tree, Void none) {
        refuse("rule 6", tree);
        return null;
    }

    @Override
    public Void visitInstanceOf(InstanceOfTree tree, Void none) {
        refuse("rule 6", tree);
        return null;
    }

    @Override
    public Void visitLambdaExpression(LambdaExpressionTree tree, Void none) {
        refuse("rule 6", tree);
        return null;
    }

    @Override
    public Void visitMemberReference(MemberReferenceTree tree, Void none) {
        refuse("rule 6", tree);
        return null;
    }
}
