import com.sun.source.tree.AnnotationTree;
import com.sun.source.tree.ArrayAccessTree;
import com.sun.source.tree.AssertTree;
import com.sun.source.tree.BinaryTree;
import com.sun.source.tree.BlockTree;
import com.sun.source.tree.ClassTree;
import com.sun.source.tree.CompilationUnitTree;
import com.sun.source.tree.CompoundAssignmentTree;
import com.sun.source.tree.IdentifierTree;
import com.sun.source.tree.ImportTree;
import com.sun.source.tree.LambdaExpressionTree;
import com.sun.source.tree.LiteralTree;
import com.sun.source.tree.MemberReferenceTree;
import com.sun.source.tree.MemberSelectTree;
import com.sun.source.tree.MethodInvocationTree;
import com.sun.source.tree.MethodTree;
import com.sun.source.tree.NewArrayTree;
import com.sun.source.tree.NewClassTree;
import com.sun.source.tree.SynchronizedTree;
import com.sun.source.tree.ThrowTree;
import com.sun.source.tree.Tree;
import com.sun.source.tree.TryTree;
import com.sun.source.tree.VariableTree;
import com.sun.source.util.JavacTask;
import com.sun.source.util.TreePath;
import com.sun.source.util.TreePathScanner;
import com.sun.source.util.Trees;
import java.nio.file.Path;
import java.util.HashMap;
import java.util.HashSet;
import java.util.List;
import java.util.Map;
import java.util.Set;
import javax.lang.model.element.Element;
import javax.lang.model.element.ElementKind;
import javax.lang.model.element.Modifier;
import javax.lang.model.element.TypeElement;
import javax.lang.model.type.TypeMirror;
import javax.tools.JavaCompiler;
import javax.tools.StandardJavaFileManager;
import javax.tools.ToolProvider;

/**
 * LANGUAGE.md: what of its rules can be seen from the tree of the source. Where the class needs less
 * than a rule leaves, less is taken here: who needs more looks the rule up and adds it.
 */
public final class RulesTest extends TreePathScanner<Void, Void> {
    private static final Path SOURCE = Path.of("src/main/java/NettingDesk.java");
    private static final Set<String> REFUSALS =
        Set.of("IllegalStateException", "IllegalArgumentException", "IndexOutOfBoundsException");
    private static final Set<String> LIBRARY = Set.of("java.lang.Math.min", "java.lang.Math.max");
    private static final int MOST_CLASSES = 12;
    private static final int MOST_FIELDS = 20;
    private static final int MOST_PARAMETERS = 7;
    private static final int MOST_LINES = 60;
    private static final int DEEPEST = 8;

    private final Trees trees;
    private CompilationUnitTree unit;
    private int classes;
    private final Map<Element, Set<Element>> calls = new HashMap<>();

    private RulesTest(Trees trees) {
        this.trees = trees;
    }

    public static void main(String[] args) throws Exception {
        JavaCompiler compiler = ToolProvider.getSystemJavaCompiler();
        try (StandardJavaFileManager files = compiler.getStandardFileManager(null, null, null)) {
            JavacTask task = (JavacTask) compiler.getTask(null, files, null, List.of("-proc:none"), null,
                files.getJavaFileObjects(SOURCE));
            RulesTest test = new RulesTest(Trees.instance(task));
            Iterable<? extends CompilationUnitTree> units = task.parse();
            task.analyze();
            for (CompilationUnitTree unit : units) {
                test.unit = unit;
                test.scan(unit, null);
            }
        }
        Check.end("RulesTest");
    }

    private void due(String rule, boolean holds) {
        Tree leaf = getCurrentPath().getLeaf();
        long at = trees.getSourcePositions().getStartPosition(unit, leaf);
        String line = at < 0 ? "" : " in the line " + unit.getLineMap().getLineNumber(at);
        Check.same("rule " + rule + line, holds ? 1 : 0, 1);
    }

    private Element element(Tree tree) {
        return trees.getElement(TreePath.getPath(unit, tree));
    }

    private static boolean isOwn(Element element) {
        Element outer = element;
        while (outer != null && outer.getKind() != ElementKind.PACKAGE) {
            if (outer.getSimpleName().contentEquals("NettingDesk")) {
                return true;
            }
            outer = outer.getEnclosingElement();
        }
        return false;
    }

    /** The method or constructor round the current place, null in a field's initialiser. */
    private Element methodHere() {
        for (TreePath path = getCurrentPath(); path != null; path = path.getParentPath()) {
            if (path.getLeaf() instanceof MethodTree) {
                return trees.getElement(path);
            }
        }
        return null;
    }

    @Override
    public Void visitCompilationUnit(CompilationUnitTree tree, Void none) {
        due("1: no package, and one class", tree.getPackageName() == null && tree.getTypeDecls().size() == 1);
        super.visitCompilationUnit(tree, none);
        due("11: some twelve classes", classes <= MOST_CLASSES);
        for (Element from : calls.keySet()) {
            due("8: no recursion, 11: calls at most eight deep, from " + from, depth(from, new HashSet<>()) <= DEEPEST);
        }
        return null;
    }

    /** How many methods of the class are open at once; far too many if one of them is open twice. */
    private int depth(Element from, Set<Element> open) {
        if (!open.add(from)) {
            return 1000;
        }
        int most = 0;
        for (Element to : calls.getOrDefault(from, Set.of())) {
            most = Math.max(most, depth(to, open));
        }
        open.remove(from);
        return most + 1;
    }

    @Override
    public Void visitClass(ClassTree tree, Void none) {
        classes++;
        Set<Modifier> modifiers = tree.getModifiers().getFlags();
        boolean inside = getCurrentPath().getParentPath().getLeaf() instanceof ClassTree;
        due("2: a class of its own kind", tree.getKind() == Tree.Kind.CLASS && !tree.getSimpleName().isEmpty());
        if (inside) {
            due("1: private and static inside",
                modifiers.contains(Modifier.PRIVATE) && modifiers.contains(Modifier.STATIC));
        }
        int fields = 0;
        for (Tree member : tree.getMembers()) {
            boolean isField = member instanceof VariableTree;
            fields += isField && !((VariableTree) member).getModifiers().getFlags().contains(Modifier.STATIC) ? 1 : 0;
            due("5: no initialiser block", !(member instanceof BlockTree));
        }
        due("11: some twenty fields", fields <= MOST_FIELDS);
        return super.visitClass(tree, none);
    }

    @Override
    public Void visitVariable(VariableTree tree, Void none) {
        Element element = trees.getElement(getCurrentPath());
        TypeMirror type = element.asType();
        if (element.getModifiers().contains(Modifier.STATIC)) {
            due("5: static fields are final constants", element.getModifiers().contains(Modifier.FINAL)
                && Set.of("int", "long", "long[]").contains(type.toString()) && tree.getInitializer() != null);
        }
        due("3: arrays of one dimension", !type.toString().endsWith("[][]"));
        return super.visitVariable(tree, none);
    }

    @Override
    public Void visitMethod(MethodTree tree, Void none) {
        long start = trees.getSourcePositions().getStartPosition(unit, tree);
        long end = trees.getSourcePositions().getEndPosition(unit, tree);
        if (start >= 0 && end >= 0) {
            long lines = unit.getLineMap().getLineNumber(end) - unit.getLineMap().getLineNumber(start) + 1;
            due("11: methods of some sixty lines", lines <= MOST_LINES);
        }
        due("11: at most seven parameters", tree.getParameters().size() <= MOST_PARAMETERS);
        due("6: no equals, hashCode or toString",
            !Set.of("equals", "hashCode", "toString").contains(tree.getName().toString()));
        calls.computeIfAbsent(trees.getElement(getCurrentPath()), one -> new HashSet<>());
        return super.visitMethod(tree, none);
    }

    @Override
    public Void visitMethodInvocation(MethodInvocationTree tree, Void none) {
        Element called = element(tree);
        String name = called.getEnclosingElement() + "." + called.getSimpleName();
        boolean isSuper = tree.getMethodSelect().toString().equals("super");
        due("4: only what stands there, not " + name, isSuper || isOwn(called) || LIBRARY.contains(name));
        if (isOwn(called) && methodHere() != null) {
            calls.computeIfAbsent(methodHere(), one -> new HashSet<>()).add(called);
        }
        return super.visitMethodInvocation(tree, none);
    }

    @Override
    public Void visitIdentifier(IdentifierTree tree, Void none) {
        Element element = trees.getElement(getCurrentPath());
        if (element instanceof TypeElement && !isOwn(element)) {
            String name = tree.getName().toString();
            due("4: only what stands there, not " + name, REFUSALS.contains(name) || name.equals("Math"));
        }
        return super.visitIdentifier(tree, none);
    }

    @Override
    public Void visitMemberSelect(MemberSelectTree tree, Void none) {
        Element element = trees.getElement(getCurrentPath());
        due("4: no class by its whole name", !(element instanceof TypeElement) || isOwn(element));
        return super.visitMemberSelect(tree, none);
    }

    @Override
    public Void visitThrow(ThrowTree tree, Void none) {
        boolean isWritten = tree.getExpression() instanceof NewClassTree made
            && REFUSALS.contains(made.getIdentifier().toString())
            && made.getArguments().size() == 1 && made.getArguments().get(0) instanceof LiteralTree;
        Element method = methodHere();
        due("6: throw new E(\"a written text\")", isWritten);
        due("6: a call of the face throws", method != null && method.getKind() == ElementKind.METHOD
            && method.getModifiers().contains(Modifier.PUBLIC));
        return super.visitThrow(tree, none);
    }

    // NOTES.md: no call makes an object, so that those of a whole run have their place in one room.
    private void lookWhereMade() {
        Element method = methodHere();
        boolean isThrown = getCurrentPath().getParentPath().getLeaf() instanceof ThrowTree;
        due("12: objects are made by constructors", isThrown || method == null
            || method.getKind() == ElementKind.CONSTRUCTOR);
    }

    @Override
    public Void visitNewClass(NewClassTree tree, Void none) {
        lookWhereMade();
        due("2: no anonymous class", tree.getClassBody() == null);
        return super.visitNewClass(tree, none);
    }

    @Override
    public Void visitNewArray(NewArrayTree tree, Void none) {
        lookWhereMade();
        return super.visitNewArray(tree, none);
    }

    @Override
    public Void visitArrayAccess(ArrayAccessTree tree, Void none) {
        String index = tree.getIndex().toString();
        due("7: an index is looked at", index.contains(" < ") || stands(index + " < "));
        return super.visitArrayAccess(tree, none);
    }

    /** Whether this stands in the method round the current place. */
    private boolean stands(String text) {
        for (TreePath path = getCurrentPath(); path != null; path = path.getParentPath()) {
            if (path.getLeaf() instanceof MethodTree) {
                return path.getLeaf().toString().contains(text);
            }
        }
        return false;
    }

    @Override
    public Void visitBinary(BinaryTree tree, Void none) {
        TypeMirror type = trees.getTypeMirror(getCurrentPath());
        due("10: texts are not joined by +", !type.toString().endsWith("String"));
        if (tree.getKind() == Tree.Kind.DIVIDE || tree.getKind() == Tree.Kind.REMAINDER) {
            lookAtDivisor(tree.getRightOperand().toString());
        }
        return super.visitBinary(tree, none);
    }

    @Override
    public Void visitCompoundAssignment(CompoundAssignmentTree tree, Void none) {
        if (tree.getKind() == Tree.Kind.DIVIDE_ASSIGNMENT || tree.getKind() == Tree.Kind.REMAINDER_ASSIGNMENT) {
            lookAtDivisor(tree.getExpression().toString());
        }
        return super.visitCompoundAssignment(tree, none);
    }

    private void lookAtDivisor(String divisor) {
        due("7: a divisor is looked at", divisor.matches("[1-9][0-9]*")
            || stands(divisor + " > 0") || stands(divisor + " == 0 ? "));
    }

    @Override
    public Void visitImport(ImportTree tree, Void none) {
        due("4: no import is needed", false);
        return super.visitImport(tree, none);
    }

    @Override
    public Void visitTry(TryTree tree, Void none) {
        due("6: no try is needed", false);
        return super.visitTry(tree, none);
    }

    @Override
    public Void visitAssert(AssertTree tree, Void none) {
        due("6: no assert", false);
        return super.visitAssert(tree, none);
    }

    @Override
    public Void visitSynchronized(SynchronizedTree tree, Void none) {
        due("6: no synchronized", false);
        return super.visitSynchronized(tree, none);
    }

    @Override
    public Void visitLambdaExpression(LambdaExpressionTree tree, Void none) {
        due("2: no lambda", false);
        return super.visitLambdaExpression(tree, none);
    }

    @Override
    public Void visitMemberReference(MemberReferenceTree tree, Void none) {
        due("2: no method reference", false);
        return super.visitMemberReference(tree, none);
    }

    @Override
    public Void visitAnnotation(AnnotationTree tree, Void none) {
        due("4: no annotation", false);
        return super.visitAnnotation(tree, none);
    }
}
