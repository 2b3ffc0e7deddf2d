import com.sun.source.tree.AssertTree;
import com.sun.source.tree.BinaryTree;
import com.sun.source.tree.ClassTree;
import com.sun.source.tree.CompilationUnitTree;
import com.sun.source.tree.CompoundAssignmentTree;
import com.sun.source.tree.DoWhileLoopTree;
import com.sun.source.tree.ForLoopTree;
import com.sun.source.tree.ImportTree;
import com.sun.source.tree.InstanceOfTree;
import com.sun.source.tree.LambdaExpressionTree;
import com.sun.source.tree.LiteralTree;
import com.sun.source.tree.MemberReferenceTree;
import com.sun.source.tree.MethodInvocationTree;
import com.sun.source.tree.MethodTree;
import com.sun.source.tree.NewArrayTree;
import com.sun.source.tree.NewClassTree;
import com.sun.source.tree.SynchronizedTree;
import com.sun.source.tree.ThrowTree;
import com.sun.source.tree.Tree;
import com.sun.source.tree.TryTree;
import com.sun.source.tree.TypeCastTree;
import com.sun.source.tree.VariableTree;
import com.sun.source.tree.WhileLoopTree;
import com.sun.source.util.JavacTask;
import com.sun.source.util.TreePath;
import com.sun.source.util.TreePathScanner;
import com.sun.source.util.Trees;
import java.io.File;
import java.io.IOException;
import java.util.ArrayList;
import java.util.HashMap;
import java.util.LinkedHashSet;
import java.util.List;
import java.util.Map;
import java.util.Set;
import javax.lang.model.element.Element;
import javax.lang.model.element.ElementKind;
import javax.lang.model.element.ExecutableElement;
import javax.lang.model.element.Modifier;
import javax.lang.model.type.ArrayType;
import javax.lang.model.type.DeclaredType;
import javax.lang.model.type.TypeKind;
import javax.lang.model.type.TypeMirror;
import javax.tools.JavaCompiler;
import javax.tools.StandardJavaFileManager;
import javax.tools.ToolProvider;

/**
 * Reads the class's own text and asks that it keeps to LANGUAGE.md, as far as a program can tell. Where a rule allows
 * what the class has no need of (try, casts among objects, lists), the test refuses it, so that nobody brings it in unseen.
 */
public final class LanguageTest extends TreePathScanner<Void, Void> {
    private static final String FILE = "src/main/java/PenOffice.java";
    private static final Set<String> LIBRARY_CALLS = Set.of("java.lang.String.length", "java.lang.String.charAt",
        "java.lang.System.arraycopy", "java.lang.Object.<init>", "java.lang.Enum.<init>");
    private static final Set<String> EXCEPTIONS = Set.of("java.lang.IllegalStateException", "java.lang.IllegalArgumentException",
        "java.lang.IndexOutOfBoundsException", "java.util.NoSuchElementException");
    private static final int MOST_PARAMETERS = 7;
    private static final int MOST_LINES = 60;
    private static final int MOST_CLASSES = 12;
    private static final int MOST_FIELDS = 20;
    private static final int DEEPEST_CALLS = 8;

    private final Testing t = new Testing("LanguageTest");
    private final CompilationUnitTree unit;
    private final Trees trees;
    private final Map<Element, Set<Element>> calls = new HashMap<>();
    private int classes;

    private LanguageTest(CompilationUnitTree unit, Trees trees) {
        this.unit = unit;
        this.trees = trees;
    }

    public static void main(String[] args) throws IOException {
        JavaCompiler compiler = ToolProvider.getSystemJavaCompiler();
        try (StandardJavaFileManager files = compiler.getStandardFileManager(null, null, null)) {
            JavacTask task = (JavacTask) compiler.getTask(null, files, null, List.of("-proc:none"), null,
                files.getJavaFileObjects(new File(FILE)));
            CompilationUnitTree unit = task.parse().iterator().next();
            task.analyze();
            new LanguageTest(unit, Trees.instance(task)).run();
        }
    }

    private void run() {
        t.due("a package line", unit.getPackageName(), null);
        t.due("the classes outside the class", unit.getTypeDecls().size(), 1);
        scan(unit, null);
        t.due("at most " + MOST_CLASSES + " classes", classes <= MOST_CLASSES, true);
        for (Element method : calls.keySet()) {
            int depth = depthOf(method, new ArrayList<>());
            t.due(method + " leads to at most " + DEEPEST_CALLS + " calls, one in the other", depth <= DEEPEST_CALLS, true);
        }
        t.end();
    }

    /** The calls that stand open at once, this one among them; a recursion counts as too many. */
    private int depthOf(Element method, List<Element> open) {
        if (open.contains(method)) {
            return DEEPEST_CALLS + 1;
        }
        open.add(method);
        int deepest = 0;
        for (Element called : calls.getOrDefault(method, Set.of())) {
            deepest = Math.max(deepest, depthOf(called, open));
        }
        open.remove(method);
        return deepest + 1;
    }

    private String at(Tree tree) {
        return "line " + lineOf(tree) + ": ";
    }

    private void banned(Tree tree, String what) {
        t.due(at(tree) + what, "stands there", "nothing of the kind");
    }

    private Element elementOf(Tree tree) {
        return trees.getElement(TreePath.getPath(unit, tree));
    }

    private TypeMirror typeOf(Tree tree) {
        return trees.getTypeMirror(TreePath.getPath(unit, tree));
    }

    private static boolean isOwn(Element element) {
        Element outer = element;
        while (outer.getEnclosingElement().getKind() != ElementKind.PACKAGE) {
            outer = outer.getEnclosingElement();
        }
        return outer.getSimpleName().contentEquals("PenOffice");
    }

    private boolean isString(Tree tree) {
        return typeOf(tree).toString().equals("java.lang.String");
    }

    private Element methodAround() {
        TreePath path = getCurrentPath();
        while (path != null && path.getLeaf().getKind() != Tree.Kind.METHOD) {
            path = path.getParentPath();
        }
        return path == null ? null : trees.getElement(path);
    }

    private boolean isInsideOf(Tree.Kind kind) {
        TreePath path = getCurrentPath();
        while (path != null && path.getLeaf().getKind() != kind) {
            path = path.getParentPath();
        }
        return path != null;
    }

    // ---- rules 1, 2, 5 and 11: classes, methods and fields

    @Override
    public Void visitImport(ImportTree tree, Void none) {
        t.due(at(tree) + "the import", tree.getQualifiedIdentifier().toString(), "java.util.NoSuchElementException");
        return super.visitImport(tree, none);
    }

    @Override
    public Void visitClass(ClassTree tree, Void none) {
        classes++;
        Element parent = trees.getElement(getCurrentPath()).getEnclosingElement();
        t.due(at(tree) + "the class stands in the file or in the class", parent.getKind() == ElementKind.PACKAGE
            || parent.getEnclosingElement().getKind() == ElementKind.PACKAGE, true);
        int fields = 0;
        for (Tree member : tree.getMembers()) {
            if (member.getKind() == Tree.Kind.BLOCK) {
                banned(member, "an initialiser block");
            }
            if (member instanceof VariableTree && !((VariableTree) member).getModifiers().getFlags().contains(Modifier.STATIC)) {
                fields++;
            }
        }
        t.due(at(tree) + "at most " + MOST_FIELDS + " fields", fields <= MOST_FIELDS, true);
        return super.visitClass(tree, none);
    }

    @Override
    public Void visitMethod(MethodTree tree, Void none) {
        t.due(at(tree) + tree.getName() + " has at most " + MOST_LINES + " lines", linesOf(tree) <= MOST_LINES, true);
        t.due(at(tree) + "at most " + MOST_PARAMETERS + " parameters", tree.getParameters().size() <= MOST_PARAMETERS, true);
        t.due(at(tree) + "equals, hashCode and toString", Set.of("equals", "hashCode", "toString").contains(tree.getName().toString()), false);
        calls.computeIfAbsent(trees.getElement(getCurrentPath()), key -> new LinkedHashSet<>());
        return super.visitMethod(tree, none);
    }

    private long linesOf(Tree tree) {
        long end = trees.getSourcePositions().getEndPosition(unit, tree);
        // A constructor that the compiler adds has no end in the text.
        return end < 0 ? 0 : unit.getLineMap().getLineNumber(end) - lineOf(tree) + 1;
    }

    private long lineOf(Tree tree) {
        return unit.getLineMap().getLineNumber(trees.getSourcePositions().getStartPosition(unit, tree));
    }

    @Override
    public Void visitVariable(VariableTree tree, Void none) {
        Element element = trees.getElement(getCurrentPath());
        t.due(at(tree) + "the type of " + tree.getName(), mayHold(element.asType()), true);
        Set<Modifier> flags = tree.getModifiers().getFlags();
        if (flags.contains(Modifier.STATIC) && element.getKind() != ElementKind.ENUM_CONSTANT) {
            t.due(at(tree) + "the static field is final and has its value", flags.contains(Modifier.FINAL) && tree.getInitializer() != null, true);
        }
        return super.visitVariable(tree, none);
    }

    /** Rule 3. */
    private boolean mayHold(TypeMirror type) {
        if (type.getKind() != TypeKind.ARRAY) {
            return type.getKind().isPrimitive() || type.toString().equals("java.lang.String")
                || type.getKind() == TypeKind.DECLARED && isOwn(((DeclaredType) type).asElement());
        }
        TypeMirror part = ((ArrayType) type).getComponentType();
        if (part.getKind() == TypeKind.ARRAY) {
            return ((ArrayType) part).getComponentType().getKind().isPrimitive();
        }
        return mayHold(part);
    }

    // ---- rules 4 and 12: calls and new objects

    @Override
    public Void visitMethodInvocation(MethodInvocationTree tree, Void none) {
        ExecutableElement called = (ExecutableElement) elementOf(tree.getMethodSelect());
        if (isOwn(called)) {
            note(called);
        } else {
            String name = called.getEnclosingElement() + "." + called.getSimpleName();
            t.due(at(tree) + name + " may be called", LIBRARY_CALLS.contains(name), true);
        }
        return super.visitMethodInvocation(tree, none);
    }

    @Override
    public Void visitNewClass(NewClassTree tree, Void none) {
        ExecutableElement made = (ExecutableElement) elementOf(tree);
        boolean thrown = getCurrentPath().getParentPath().getLeaf().getKind() == Tree.Kind.THROW;
        t.due(at(tree) + made.getEnclosingElement() + " may be made", isOwn(made) || thrown, true);
        t.due(at(tree) + "made in a while loop", isInsideOf(Tree.Kind.WHILE_LOOP), false);
        t.due(at(tree) + "has a body of its own", tree.getClassBody() == null || made.getEnclosingElement().getKind() == ElementKind.ENUM, true);
        if (isOwn(made)) {
            note(made);
        }
        return super.visitNewClass(tree, none);
    }

    @Override
    public Void visitNewArray(NewArrayTree tree, Void none) {
        t.due(at(tree) + "made in a while loop", isInsideOf(Tree.Kind.WHILE_LOOP), false);
        return super.visitNewArray(tree, none);
    }

    private void note(Element called) {
        Element caller = methodAround();
        if (caller != null) {
            calls.computeIfAbsent(caller, key -> new LinkedHashSet<>()).add(called);
        }
    }

    // ---- rules 2, 6, 9 and 10: what stands in a method

    @Override
    public Void visitThrow(ThrowTree tree, Void none) {
        t.due(at(tree) + "the throw makes its exception", tree.getExpression().getKind(), Tree.Kind.NEW_CLASS);
        if (tree.getExpression() instanceof NewClassTree) {
            NewClassTree made = (NewClassTree) tree.getExpression();
            t.due(at(tree) + "the exception is one of the document's", EXCEPTIONS.contains(typeOf(made).toString()), true);
            boolean written = made.getArguments().isEmpty()
                || made.getArguments().size() == 1 && made.getArguments().get(0).getKind() == Tree.Kind.STRING_LITERAL;
            t.due(at(tree) + "the exception bears a written text", written, true);
        }
        Element around = methodAround();
        t.due(at(tree) + "a throw in a constructor", around != null && around.getKind() == ElementKind.CONSTRUCTOR, false);
        return super.visitThrow(tree, none);
    }

    @Override
    public Void visitBinary(BinaryTree tree, Void none) {
        t.due(at(tree) + "texts are joined or compared by " + tree.getKind(), isString(tree.getLeftOperand()) || isString(tree.getRightOperand()), false);
        return super.visitBinary(tree, none);
    }

    @Override
    public Void visitCompoundAssignment(CompoundAssignmentTree tree, Void none) {
        t.due(at(tree) + "texts are joined", isString(tree.getVariable()), false);
        return super.visitCompoundAssignment(tree, none);
    }

    @Override
    public Void visitTypeCast(TypeCastTree tree, Void none) {
        t.due(at(tree) + "the cast is one of numbers", typeOf(tree.getType()).getKind().isPrimitive()
            && typeOf(tree.getExpression()).getKind().isPrimitive(), true);
        return super.visitTypeCast(tree, none);
    }

    @Override
    public Void visitLiteral(LiteralTree tree, Void none) {
        if (tree.getValue() instanceof String || tree.getValue() instanceof Character) {
            t.due(at(tree) + "the signs of the text are 1 to 127", tree.getValue().toString().chars().allMatch(sign -> sign >= 1 && sign <= 127), true);
        }
        return super.visitLiteral(tree, none);
    }

    @Override
    public Void visitForLoop(ForLoopTree tree, Void none) {
        t.due(at(tree) + "the loop has an end and steps", tree.getCondition() != null && tree.getUpdate().size() == 1, true);
        return super.visitForLoop(tree, none);
    }

    @Override
    public Void visitWhileLoop(WhileLoopTree tree, Void none) {
        // Each while of the class counts something up to a bound that stands first in its condition.
        t.due(at(tree) + "the loop has a bound", tree.getCondition().toString().matches("\\(\\w+ < \\w+(\\.\\w+)? && .*"), true);
        return super.visitWhileLoop(tree, none);
    }

    @Override
    public Void visitDoWhileLoop(DoWhileLoopTree tree, Void none) {
        banned(tree, "do");
        return super.visitDoWhileLoop(tree, none);
    }

    @Override
    public Void visitTry(TryTree tree, Void none) {
        banned(tree, "try");
        return super.visitTry(tree, none);
    }

    @Override
    public Void visitLambdaExpression(LambdaExpressionTree tree, Void none) {
        banned(tree, "a lambda");
        return super.visitLambdaExpression(tree, none);
    }

    @Override
    public Void visitMemberReference(MemberReferenceTree tree, Void none) {
        banned(tree, "a method reference");
        return super.visitMemberReference(tree, none);
    }

    @Override
    public Void visitInstanceOf(InstanceOfTree tree, Void none) {
        banned(tree, "instanceof");
        return super.visitInstanceOf(tree, none);
    }

    @Override
    public Void visitSynchronized(SynchronizedTree tree, Void none) {
        banned(tree, "synchronized");
        return super.visitSynchronized(tree, none);
    }

    @Override
    public Void visitAssert(AssertTree tree, Void none) {
        banned(tree, "assert");
        return super.visitAssert(tree, none);
    }
}
