import com.sun.source.tree.ArrayTypeTree;
import com.sun.source.tree.AssignmentTree;
import com.sun.source.tree.BinaryTree;
import com.sun.source.tree.BlockTree;
import com.sun.source.tree.ClassTree;
import com.sun.source.tree.CompilationUnitTree;
import com.sun.source.tree.ExpressionTree;
import com.sun.source.tree.IdentifierTree;
import com.sun.source.tree.LiteralTree;
import com.sun.source.tree.MethodInvocationTree;
import com.sun.source.tree.MethodTree;
import com.sun.source.tree.NewArrayTree;
import com.sun.source.tree.PrimitiveTypeTree;
import com.sun.source.tree.Tree;
import com.sun.source.tree.TypeCastTree;
import com.sun.source.tree.VariableTree;
import com.sun.source.util.JavacTask;
import com.sun.source.util.TreePath;
import com.sun.source.util.TreePathScanner;
import com.sun.source.util.Trees;
import java.io.IOException;
import java.nio.file.Path;
import java.util.EnumSet;
import java.util.HashMap;
import java.util.List;
import java.util.Map;
import java.util.Set;
import java.util.TreeMap;
import java.util.TreeSet;
import javax.lang.model.element.ElementKind;
import javax.lang.model.element.Modifier;
import javax.lang.model.element.VariableElement;
import javax.lang.model.type.TypeKind;
import javax.tools.JavaCompiler;
import javax.tools.StandardJavaFileManager;
import javax.tools.ToolProvider;

/**
 * The rules of LANGUAGE.md that can be seen in the text of the class, as the compiler reads it. What it does not see:
 * that no index and no divisor is wrong (7) and that every loop ends (8). FaceTest sees what is seen from outside.
 */
public final class LanguageTest extends TreePathScanner<Void, Void> {
    private static final String PROGRAM = "src/main/java/WeakOrderJudge.java";
    private static final int MOST_LINES = 60;
    private static final int MOST_DEEP = 6;

    // A member of anything would be one of another class: the class names its own without a dot.
    private static final Set<Tree.Kind> FORBIDDEN = EnumSet.of(
        Tree.Kind.THROW, Tree.Kind.TRY, Tree.Kind.CATCH, Tree.Kind.SYNCHRONIZED, Tree.Kind.ASSERT, Tree.Kind.INSTANCE_OF,
        Tree.Kind.LAMBDA_EXPRESSION, Tree.Kind.MEMBER_REFERENCE, Tree.Kind.NEW_CLASS, Tree.Kind.MEMBER_SELECT,
        Tree.Kind.NULL_LITERAL, Tree.Kind.STRING_LITERAL, Tree.Kind.FLOAT_LITERAL, Tree.Kind.DOUBLE_LITERAL,
        Tree.Kind.ANNOTATION, Tree.Kind.INTERFACE, Tree.Kind.ENUM, Tree.Kind.RECORD);
    private static final Set<TypeKind> NUMBERS = EnumSet.of(
        TypeKind.INT, TypeKind.LONG, TypeKind.SHORT, TypeKind.BYTE, TypeKind.CHAR, TypeKind.BOOLEAN);

    private final Check check;
    private final Trees trees;
    private final Map<String, Set<String>> callsOf = new TreeMap<>();
    private String method = "";
    private int callsAround = 0;

    private LanguageTest(Check check, Trees trees) {
        this.check = check;
        this.trees = trees;
    }

    public static void main(String[] args) throws IOException {
        Check check = new Check();
        JavaCompiler compiler = ToolProvider.getSystemJavaCompiler();
        try (StandardJavaFileManager files = compiler.getStandardFileManager(null, null, null)) {
            JavacTask task = (JavacTask) compiler.getTask(null, files, null, List.of("-proc:none"), null,
                files.getJavaFileObjects(Path.of(PROGRAM)));
            CompilationUnitTree unit = task.parse().iterator().next();
            task.analyze();
            LanguageTest test = new LanguageTest(check, Trees.instance(task));
            test.scan(new TreePath(unit), null);
            test.depths();
        }
        check.end();
    }

    private void rule(String number, String what, Tree tree, boolean truth) {
        CompilationUnitTree unit = getCurrentPath().getCompilationUnit();
        long line = unit.getLineMap().getLineNumber(trees.getSourcePositions().getStartPosition(unit, tree));
        check.holds("rule " + number + ", line " + line + ": " + what, truth);
    }

    @Override
    public Void scan(Tree tree, Void none) {
        if (tree != null) {
            rule("1 to 6", "no " + tree.getKind(), tree, !FORBIDDEN.contains(tree.getKind()));
        }
        return super.scan(tree, none);
    }

    @Override
    public Void visitCompilationUnit(CompilationUnitTree unit, Void none) {
        rule("1", "no package line", unit, unit.getPackage() == null);
        rule("1", "one class", unit, unit.getTypeDecls().size() == 1);
        rule("3", "nothing is imported", unit, unit.getImports().isEmpty());
        return super.visitCompilationUnit(unit, none);
    }

    @Override
    public Void visitClass(ClassTree tree, Void none) {
        rule("1", "no nested class", tree, getCurrentPath().getParentPath().getLeaf() instanceof CompilationUnitTree);
        rule("3", "no class of the library is extended", tree, tree.getExtendsClause() == null && tree.getImplementsClause().isEmpty());
        for (Tree member : tree.getMembers()) {
            rule("5", "no initialiser block", member, !(member instanceof BlockTree));
        }
        return super.visitClass(tree, none);
    }

    @Override
    public Void visitVariable(VariableTree tree, Void none) {
        Tree type = tree.getType();
        boolean isArray = type instanceof ArrayTypeTree;
        Tree ofNumbers = isArray ? ((ArrayTypeTree) type).getType() : type;
        rule("2", tree.getName() + " is a number or a row of numbers", tree, isNumber(ofNumbers));
        if (isField(getCurrentPath())) {
            rule("4", tree.getName() + " names one array for good", tree, !isArray || isFinal(tree));
            if (tree.getModifiers().getFlags().contains(Modifier.STATIC)) {
                rule("5", tree.getName() + " is a constant", tree, constant(getCurrentPath()) != null);
            }
        }
        return super.visitVariable(tree, none);
    }

    private static boolean isNumber(Tree type) {
        return type instanceof PrimitiveTypeTree primitive && NUMBERS.contains(primitive.getPrimitiveTypeKind());
    }

    private static boolean isFinal(VariableTree tree) {
        return tree.getModifiers().getFlags().contains(Modifier.FINAL);
    }

    private static boolean isField(TreePath path) {
        return path.getLeaf() instanceof VariableTree && path.getParentPath().getLeaf() instanceof ClassTree;
    }

    private Object constant(TreePath path) {
        return trees.getElement(path) instanceof VariableElement variable ? variable.getConstantValue() : null;
    }

    @Override
    public Void visitNewArray(NewArrayTree tree, Void none) {
        TreePath maker = getCurrentPath().getParentPath();
        rule("4", "an array is made by the initialiser of its field", tree, isField(maker));
        rule("4", "an array has one length and no list of values", tree,
            tree.getDimensions().size() == 1 && tree.getInitializers() == null);
        for (ExpressionTree length : tree.getDimensions()) {
            boolean literal = length instanceof LiteralTree one && (int) one.getValue() >= 1;
            Object named = length instanceof IdentifierTree ? constant(new TreePath(getCurrentPath(), length)) : null;
            rule("4", "a length is a literal or a constant, 1 or more", tree, literal || named instanceof Integer one && one >= 1);
        }
        return super.visitNewArray(tree, none);
    }

    @Override
    public Void visitAssignment(AssignmentTree tree, Void none) {
        rule("4", "a name stays with its array", tree, !isArray(tree.getVariable()));
        return super.visitAssignment(tree, none);
    }

    @Override
    public Void visitBinary(BinaryTree tree, Void none) {
        rule("4", "no array is compared", tree, !isArray(tree.getLeftOperand()) && !isArray(tree.getRightOperand()));
        return super.visitBinary(tree, none);
    }

    private boolean isArray(ExpressionTree tree) {
        return trees.getTypeMirror(new TreePath(getCurrentPath(), tree)).getKind() == TypeKind.ARRAY;
    }

    @Override
    public Void visitTypeCast(TypeCastTree tree, Void none) {
        rule("6", "a cast between numbers", tree, isNumber(tree.getType()));
        return super.visitTypeCast(tree, none);
    }

    @Override
    public Void visitMethod(MethodTree tree, Void none) {
        method = tree.getName().toString();
        // More than the rule asks, but the calls are told apart by name alone.
        rule("1", method + " has a name of its own", tree, callsOf.put(method, new TreeSet<>()) == null);
        CompilationUnitTree unit = getCurrentPath().getCompilationUnit();
        long first = unit.getLineMap().getLineNumber(trees.getSourcePositions().getStartPosition(unit, tree));
        long last = unit.getLineMap().getLineNumber(trees.getSourcePositions().getEndPosition(unit, tree));
        rule("10", method + " has at most " + MOST_LINES + " lines", tree, last - first < MOST_LINES);
        return super.visitMethod(tree, none);
    }

    @Override
    public Void visitMethodInvocation(MethodInvocationTree tree, Void none) {
        String called = tree.getMethodSelect().toString();
        // The compiler itself puts super() at the constructor's beginning.
        if (called.equals("super")) {
            return null;
        }
        TreePath name = new TreePath(getCurrentPath(), tree.getMethodSelect());
        boolean own = trees.getElement(name) != null && trees.getElement(name).getKind() == ElementKind.METHOD
            && trees.getElement(name).getEnclosingElement().getSimpleName().contentEquals("WeakOrderJudge");
        rule("3", called + " is a method of the class", tree, own);
        rule("10", called + " is not called inside the arguments of another call", tree, callsAround == 0);
        callsOf.get(method).add(called);
        callsAround++;
        super.visitMethodInvocation(tree, none);
        callsAround--;
        return null;
    }

    private void depths() {
        Map<String, Integer> known = new HashMap<>();
        // Each round finds the depth of the methods that call none but known ones; what calls itself is never found.
        for (int round = 1; round <= MOST_DEEP; round++) {
            Set<String> before = Set.copyOf(known.keySet());
            for (Map.Entry<String, Set<String>> entry : callsOf.entrySet()) {
                if (before.containsAll(entry.getValue())) {
                    known.putIfAbsent(entry.getKey(), round);
                }
            }
        }
        for (String name : callsOf.keySet()) {
            check.holds("rules 8, 10: " + name + " calls at most " + MOST_DEEP + " deep and never itself", known.containsKey(name));
        }
    }
}
