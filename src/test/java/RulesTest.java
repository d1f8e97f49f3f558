import com.sun.source.tree.BinaryTree;
import com.sun.source.tree.ClassTree;
import com.sun.source.tree.CompilationUnitTree;
import com.sun.source.tree.EnhancedForLoopTree;
import com.sun.source.tree.ForLoopTree;
import com.sun.source.tree.InstanceOfTree;
import com.sun.source.tree.LambdaExpressionTree;
import com.sun.source.tree.MemberReferenceTree;
import com.sun.source.tree.MethodInvocationTree;
import com.sun.source.tree.MethodTree;
import com.sun.source.tree.NewArrayTree;
import com.sun.source.tree.NewClassTree;
import com.sun.source.tree.Tree;
import com.sun.source.tree.TypeCastTree;
import com.sun.source.tree.VariableTree;
import com.sun.source.util.JavacTask;
import com.sun.source.util.TreePath;
import com.sun.source.util.TreePathScanner;
import com.sun.source.util.Trees;
import java.io.File;
import java.io.IOException;
import java.util.HashSet;
import java.util.LinkedHashMap;
import java.util.List;
import java.util.Map;
import java.util.Set;
import java.util.TreeSet;
import javax.lang.model.element.Element;
import javax.lang.model.element.Modifier;
import javax.lang.model.element.VariableElement;
import javax.tools.JavaCompiler;
import javax.tools.StandardJavaFileManager;
import javax.tools.ToolProvider;

/** The rules of LANGUAGE.md that can be seen in the program's tree, as the compiler reads it. */
final class RulesTest extends TreePathScanner<Void, Void> {
    private static final File PROGRAM = new File("src/main/java/CraneGuard.java");
    private static final int MOST_CALLS_DEEP = 8;
    private static final int MOST_PARAMETERS = 7;
    private static final int MOST_LINES = 60;
    private static final int MOST_CLASSES = 12;
    private static final int MOST_FIELDS = 20;
    /** What the program takes from the library; rule 4 would leave more. */
    private static final Set<String> LIBRARY = Set.of("System.arraycopy", "Integer.bitCount", "Math.min");

    private final Trees trees;
    private final CompilationUnitTree file;
    /** For each method of the program the methods that it calls, the library's too. */
    private final Map<String, Set<String>> calls = new LinkedHashMap<>();
    private final Set<String> publicNames = new TreeSet<>();
    private final Set<String> privateNames = new TreeSet<>();
    private int classes = 0;

    private RulesTest(Trees trees, CompilationUnitTree file) {
        this.trees = trees;
        this.file = file;
    }

    static void run() {
        JavaCompiler compiler = ToolProvider.getSystemJavaCompiler();
        try (StandardJavaFileManager files = compiler.getStandardFileManager(null, null, null)) {
            JavacTask task = (JavacTask) compiler.getTask(null, files, null, List.of("-proc:none"), null,
                    files.getJavaFileObjects(PROGRAM));
            CompilationUnitTree file = task.parse().iterator().next();
            task.analyze();
            RulesTest test = new RulesTest(Trees.instance(task), file);
            test.scan(file, null);
            test.dueWhole();
        } catch (IOException e) {
            Check.holds("the program can be read: " + e, false);
        }
    }

    private void dueWhole() {
        Check.due("types of the file's first level (the face)", file.getTypeDecls().size(), 1);
        Check.due("imports", file.getImports().size(), 0);
        Check.holds("without a package line (the face)", file.getPackageName() == null);
        Check.holds("some twelve classes at most (rule 11): " + classes, classes <= MOST_CLASSES);
        Set<String> both = new TreeSet<>(privateNames);
        both.retainAll(publicNames);
        // The classes inside get a constructor from the compiler, as private as they are.
        both.remove("<init>");
        Check.holds("no private method bears a public one's name (rule 1): " + both, both.isEmpty());
        for (String method : calls.keySet()) {
            int deep = deepestFrom(method, new HashSet<>());
            Check.holds("calls from " + method + " go at most eight deep (rule 11): " + deep,
                    deep <= MOST_CALLS_DEEP);
        }
        Check.holds("the methods were read: " + calls.size(), calls.size() > 33);
    }

    /** How many calls stand open at once, with that of the method itself; far too many if it calls itself. */
    private int deepestFrom(String method, Set<String> open) {
        if (!open.add(method)) {
            return 1000;
        }
        int deepest = 0;
        for (String called : calls.getOrDefault(method, Set.of())) {
            deepest = Math.max(deepest, deepestFrom(called, open));
        }
        open.remove(method);
        return deepest + 1;
    }

    @Override
    public Void visitClass(ClassTree tree, Void none) {
        classes++;
        String name = tree.getSimpleName().toString();
        boolean inside = getCurrentPath().getParentPath().getLeaf() instanceof ClassTree;
        boolean first = getCurrentPath().getParentPath().getLeaf() instanceof CompilationUnitTree;
        Set<Modifier> modifiers = tree.getModifiers().getFlags();
        Check.holds(name + " is no local or anonymous class (rule 2)", inside || first);
        Check.holds(name + " is static if it is inside (rule 2)", first || modifiers.contains(Modifier.STATIC));
        int fields = 0;
        for (Tree member : tree.getMembers()) {
            Check.holds(name + " has no initialiser block (rule 5)", member.getKind() != Tree.Kind.BLOCK);
            fields += member instanceof VariableTree field && isOwnField(field) ? 1 : 0;
        }
        Check.holds(name + " has some twenty fields at most (rule 11): " + fields, fields <= MOST_FIELDS);
        return super.visitClass(tree, none);
    }

    private static boolean isOwnField(VariableTree field) {
        return !field.getModifiers().getFlags().contains(Modifier.STATIC);
    }

    @Override
    public Void visitVariable(VariableTree tree, Void none) {
        Element element = trees.getElement(getCurrentPath());
        if (element.getModifiers().contains(Modifier.STATIC)) {
            boolean constant = element instanceof VariableElement field && field.getConstantValue() != null;
            Check.holds(tree.getName() + " is a constant (rule 5)",
                    constant && element.getModifiers().contains(Modifier.FINAL));
        }
        return super.visitVariable(tree, none);
    }

    @Override
    public Void visitMethod(MethodTree tree, Void none) {
        String name = tree.getName().toString();
        Set<Modifier> modifiers = tree.getModifiers().getFlags();
        if (modifiers.contains(Modifier.PUBLIC)) {
            publicNames.add(name);
        } else if (modifiers.contains(Modifier.PRIVATE)) {
            privateNames.add(name);
        }
        Check.holds(name + " has seven parameters at most (rule 11)", tree.getParameters().size() <= MOST_PARAMETERS);
        int lines = lineAt(trees.getSourcePositions().getEndPosition(file, tree))
                - lineAt(trees.getSourcePositions().getStartPosition(file, tree)) + 1;
        Check.holds(name + " has some sixty lines at most (rule 11): " + lines, lines <= MOST_LINES);
        calls.computeIfAbsent(nameOf(getCurrentPath()), key -> new TreeSet<>());
        return super.visitMethod(tree, none);
    }

    private int lineAt(long position) {
        return position < 0 ? 0 : (int) file.getLineMap().getLineNumber(position);
    }

    @Override
    public Void visitMethodInvocation(MethodInvocationTree tree, Void none) {
        String called = nameOf(getCurrentPath());
        // A constructor that has no such line calls super() too.
        if (!called.equals("Object.<init>")) {
            boolean own = trees.getTree(trees.getElement(getCurrentPath())) != null;
            Check.holds(called + " is the program's own, or the library's (rule 4)", own || LIBRARY.contains(called));
            calls.computeIfAbsent(methodAround(), key -> new TreeSet<>()).add(called);
        }
        return super.visitMethodInvocation(tree, none);
    }

    /** The name of the method that the path leads to, with its class. */
    private String nameOf(TreePath path) {
        Element element = trees.getElement(path);
        return element.getEnclosingElement().getSimpleName() + "." + element.getSimpleName();
    }

    private String methodAround() {
        for (TreePath path = getCurrentPath(); path != null; path = path.getParentPath()) {
            if (path.getLeaf() instanceof MethodTree) {
                return nameOf(path);
            }
        }
        return "a field's initialiser";
    }

    @Override
    public Void visitNewClass(NewClassTree tree, Void none) {
        Check.holds(tree + " is made with the guard, by no call (rule 12)", methodAround().startsWith("a field"));
        return super.visitNewClass(tree, none);
    }

    @Override
    public Void visitNewArray(NewArrayTree tree, Void none) {
        Check.holds(tree + " is made with the guard, by no call (rule 12)", methodAround().startsWith("a field"));
        Check.due(tree + ", its dimensions (rule 3)", tree.getDimensions().size(), 1);
        for (Tree length : tree.getDimensions()) {
            Check.holds(tree + " has a constant for its length (rule 7)", isConstantAboveZero(length));
        }
        return super.visitNewArray(tree, none);
    }

    @Override
    public Void visitBinary(BinaryTree tree, Void none) {
        if (tree.getKind() == Tree.Kind.DIVIDE || tree.getKind() == Tree.Kind.REMAINDER) {
            Check.holds(tree + " divides by a constant above 0 (rule 7)", isConstantAboveZero(tree.getRightOperand()));
        }
        return super.visitBinary(tree, none);
    }

    /** A literal, a constant's name, or a reckoning of such ones that is above 0, as far as it can be seen. */
    private boolean isConstantAboveZero(Tree tree) {
        if (tree instanceof BinaryTree both) {
            return both.getKind() == Tree.Kind.MULTIPLY && isConstantAboveZero(both.getLeftOperand())
                    && isConstantAboveZero(both.getRightOperand());
        }
        if (tree.getKind() == Tree.Kind.INT_LITERAL) {
            return Integer.parseInt(tree.toString()) > 0;
        }
        Element element = trees.getElement(new TreePath(getCurrentPath(), tree));
        return element instanceof VariableElement field && field.getConstantValue() instanceof Integer value
                && value > 0;
    }

    @Override
    public Void visitForLoop(ForLoopTree tree, Void none) {
        boolean counted = tree.getCondition() != null && tree.getUpdate().size() == 1
                && tree.getInitializer().size() == 1 && tree.getInitializer().get(0) instanceof VariableTree;
        Check.holds("a for has a counter, a bound and a step (rule 9): " + tree.getCondition(), counted);
        if (counted) {
            String counter = ((VariableTree) tree.getInitializer().get(0)).getName().toString();
            Check.holds(counter + " is in the bound (rule 9)", tree.getCondition().toString().contains(counter));
            Check.holds(counter + " is put by the loop's head alone (rule 9)", !isAssigned(counter, tree));
        }
        return super.visitForLoop(tree, none);
    }

    private boolean isAssigned(String name, ForLoopTree loop) {
        return loop.getStatement().toString().matches("(?s).*\\b" + name + "\\s*(\\+\\+|--|[-+*/%&|^]?=[^=]).*");
    }

    @Override
    public Void visitEnhancedForLoop(EnhancedForLoopTree tree, Void none) {
        Check.holds("there is no for over a list: " + tree, false);
        return super.visitEnhancedForLoop(tree, none);
    }

    @Override
    public Void visitTypeCast(TypeCastTree tree, Void none) {
        Check.holds("there is no cast: " + tree, false);
        return super.visitTypeCast(tree, none);
    }

    @Override
    public Void visitInstanceOf(InstanceOfTree tree, Void none) {
        Check.holds("there is no instanceof: " + tree, false);
        return super.visitInstanceOf(tree, none);
    }

    @Override
    public Void visitLambdaExpression(LambdaExpressionTree tree, Void none) {
        Check.holds("there is no lambda (rule 2): " + tree, false);
        return super.visitLambdaExpression(tree, none);
    }

    @Override
    public Void visitMemberReference(MemberReferenceTree tree, Void none) {
        Check.holds("there is no method reference (rule 2): " + tree, false);
        return super.visitMemberReference(tree, none);
    }
}
