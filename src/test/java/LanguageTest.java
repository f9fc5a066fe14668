import com.sun.source.tree.CompilationUnitTree;
import com.sun.source.tree.MemberSelectTree;
import com.sun.source.tree.MethodInvocationTree;
import com.sun.source.tree.MethodTree;
import com.sun.source.tree.NewArrayTree;
import com.sun.source.tree.PrimitiveTypeTree;
import com.sun.source.tree.Tree;
import com.sun.source.util.JavacTask;
import com.sun.source.util.SourcePositions;
import com.sun.source.util.TreeScanner;
import com.sun.source.util.Trees;
import java.io.File;
import java.io.IOException;
import java.util.EnumSet;
import java.util.Map;
import java.util.Set;
import java.util.TreeMap;
import java.util.TreeSet;
import javax.lang.model.type.TypeKind;
import javax.tools.JavaCompiler;
import javax.tools.StandardJavaFileManager;
import javax.tools.ToolProvider;

/** Those rules of LANGUAGE.md that can be seen in the syntax tree of the class. */
public final class LanguageTest extends TreeScanner<Void, Void> {
    private static final Check CHECK = new Check("LanguageTest");
    private static final File SOURCE = new File("src/main/java/ShapeInference.java");
    private static final int LONGEST_METHOD = 60;
    private static final int DEEPEST_CALL = 6;

    private static final Set<Tree.Kind> FORBIDDEN = EnumSet.of(
            Tree.Kind.IMPORT, Tree.Kind.PACKAGE, Tree.Kind.INTERFACE, Tree.Kind.ENUM,
            Tree.Kind.RECORD, Tree.Kind.ANNOTATION, Tree.Kind.THROW, Tree.Kind.TRY, Tree.Kind.CATCH,
            Tree.Kind.SYNCHRONIZED, Tree.Kind.ASSERT, Tree.Kind.INSTANCE_OF,
            Tree.Kind.LAMBDA_EXPRESSION, Tree.Kind.MEMBER_REFERENCE, Tree.Kind.NEW_CLASS,
            Tree.Kind.NULL_LITERAL, Tree.Kind.STRING_LITERAL, Tree.Kind.FLOAT_LITERAL,
            Tree.Kind.DOUBLE_LITERAL, Tree.Kind.PARAMETERIZED_TYPE);

    private static final Set<Tree.Kind> LOOP_OR_CONDITION = EnumSet.of(
            Tree.Kind.FOR_LOOP, Tree.Kind.ENHANCED_FOR_LOOP, Tree.Kind.WHILE_LOOP,
            Tree.Kind.DO_WHILE_LOOP, Tree.Kind.IF, Tree.Kind.SWITCH,
            Tree.Kind.CONDITIONAL_EXPRESSION);

    private final CompilationUnitTree unit;
    private final SourcePositions positions;
    private final Map<String, Set<String>> calls = new TreeMap<>();
    private String method = "";
    private int insideArguments = 0;
    private int insideLoopsOrConditions = 0;

    private LanguageTest(CompilationUnitTree unit, SourcePositions positions) {
        this.unit = unit;
        this.positions = positions;
    }

    private long line(long position) {
        return unit.getLineMap().getLineNumber(position);
    }

    private String where(Tree tree) {
        return "line " + line(positions.getStartPosition(unit, tree)) + ": ";
    }

    @Override
    public Void scan(Tree tree, Void nothing) {
        if (tree == null) {
            return null;
        }
        CHECK.due(where(tree) + tree.getKind(), FORBIDDEN.contains(tree.getKind()), false);
        int inside = LOOP_OR_CONDITION.contains(tree.getKind()) ? 1 : 0;
        insideLoopsOrConditions += inside;
        super.scan(tree, nothing);
        insideLoopsOrConditions -= inside;
        return null;
    }

    @Override
    public Void visitMethod(MethodTree tree, Void nothing) {
        method = tree.getName().toString();
        // methods of one name are followed as one
        calls.putIfAbsent(method, new TreeSet<>());
        long first = line(positions.getStartPosition(unit, tree));
        long last = line(positions.getEndPosition(unit, tree));
        CHECK.due(method + " is short", last - first < LONGEST_METHOD, true);
        super.visitMethod(tree, nothing);
        method = "";
        return null;
    }

    private static String called(Tree select) {
        return select instanceof MemberSelectTree member ? member.getIdentifier().toString()
                : select.toString();
    }

    @Override
    public Void visitMethodInvocation(MethodInvocationTree tree, Void nothing) {
        String name = called(tree.getMethodSelect());
        // the empty constructor call that javac puts in is not in the source
        if (name.equals("super")) {
            return null;
        }
        CHECK.due(where(tree) + "a call in the arguments of a call", insideArguments, 0);
        CHECK.due(where(tree) + "a call outside of a method", method.isEmpty(), false);
        calls.getOrDefault(method, new TreeSet<>()).add(name);
        scan(tree.getMethodSelect(), nothing);
        insideArguments++;
        scan(tree.getArguments(), nothing);
        insideArguments--;
        return null;
    }

    @Override
    public Void visitMemberSelect(MemberSelectTree tree, Void nothing) {
        String of = tree.getExpression().toString();
        boolean own = of.equals("this") || of.equals("ShapeInference");
        boolean length = tree.getIdentifier().contentEquals("length");
        CHECK.due(where(tree) + tree + " is of the class or a length", own || length, true);
        return super.visitMemberSelect(tree, nothing);
    }

    @Override
    public Void visitNewArray(NewArrayTree tree, Void nothing) {
        boolean atTheStart = method.isEmpty() || method.equals("<init>");
        CHECK.due(where(tree) + "an array made in " + method, atTheStart, true);
        CHECK.due(where(tree) + "an array in a loop or behind a condition",
                insideLoopsOrConditions, 0);
        CHECK.due(where(tree) + "one dimension with a length", tree.getDimensions().size(), 1);
        return super.visitNewArray(tree, nothing);
    }

    @Override
    public Void visitPrimitiveType(PrimitiveTypeTree tree, Void nothing) {
        TypeKind kind = tree.getPrimitiveTypeKind();
        CHECK.due(where(tree) + kind, kind == TypeKind.FLOAT || kind == TypeKind.DOUBLE, false);
        return null;
    }

    private void follow(String name, int depth) {
        CHECK.due("calls " + depth + " deep at " + name, depth <= DEEPEST_CALL, true);
        CHECK.due(name + " is a method of the class", calls.containsKey(name), true);
        if (depth <= DEEPEST_CALL) {
            for (String next : calls.getOrDefault(name, Set.of())) {
                follow(next, depth + 1);
            }
        }
    }

    public static void main(String[] args) throws IOException {
        JavaCompiler compiler = ToolProvider.getSystemJavaCompiler();
        try (StandardJavaFileManager files = compiler.getStandardFileManager(null, null, null)) {
            JavacTask task = (JavacTask) compiler.getTask(null, files, null, null, null,
                    files.getJavaFileObjects(SOURCE));
            CompilationUnitTree unit = task.parse().iterator().next();
            LanguageTest test = new LanguageTest(unit, Trees.instance(task).getSourcePositions());
            CHECK.due("types in the file", unit.getTypeDecls().size(), 1);
            test.scan(unit, null);
            // a loop of calls has no end, so it shows as a depth beyond the limit
            for (String name : test.calls.keySet()) {
                test.follow(name, 1);
            }
        }
        CHECK.end();
    }
}
