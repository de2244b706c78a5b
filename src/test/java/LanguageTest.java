import com.sun.source.tree.AssertTree;
import com.sun.source.tree.BinaryTree;
import com.sun.source.tree.ClassTree;
import com.sun.source.tree.CompilationUnitTree;
import com.sun.source.tree.CompoundAssignmentTree;
import com.sun.source.tree.ExpressionTree;
import com.sun.source.tree.ImportTree;
import com.sun.source.tree.LambdaExpressionTree;
import com.sun.source.tree.LiteralTree;
import com.sun.source.tree.MemberReferenceTree;
import com.sun.source.tree.MemberSelectTree;
import com.sun.source.tree.MethodInvocationTree;
import com.sun.source.tree.MethodTree;
import com.sun.source.tree.NewArrayTree;
import com.sun.source.tree.NewClassTree;
import com.sun.source.tree.SynchronizedTree;
import com.sun.source.tree.ThrowTree;
import com.sun.source.tree.Tree;
import com.sun.source.tree.TryTree;
import com.sun.source.tree.VariableTree;
import com.sun.source.util.JavacTask;
import com.sun.source.util.TreePath;
import com.sun.source.util.TreePathScanner;
import com.sun.source.util.Trees;
import java.nio.file.Path;
import java.util.HashMap;
import java.util.LinkedHashSet;
import java.util.List;
import java.util.Map;
import java.util.Set;
import javax.lang.model.element.Element;
import javax.lang.model.element.ElementKind;
import javax.lang.model.element.Modifier;
import javax.lang.model.element.TypeElement;
import javax.lang.model.element.VariableElement;
import javax.lang.model.type.ArrayType;
import javax.lang.model.type.TypeKind;
import javax.lang.model.type.TypeMirror;
import javax.tools.StandardJavaFileManager;
import javax.tools.ToolProvider;

/**
 * The rules of LANGUAGE.md that the source shows by its form. What the program has no need of (try,
 * recursion, library classes beside String) is refused here as a whole, though a rule allows it.
 */
public final class LanguageTest extends TreePathScanner<Void, Void> {
    private static final Expect EXPECT = new Expect("LanguageTest");
    private static final Path PROGRAM = Path.of("src/main/java/ClimbingHall.java");
    private static final Set<String> IMPORTS = Set.of("java.util.NoSuchElementException");
    private static final Set<String> EXCEPTIONS = Set.of("IllegalStateException",
            "IllegalArgumentException", "IndexOutOfBoundsException", "ArithmeticException",
            "UnsupportedOperationException", "NoSuchElementException", "RuntimeException");
    private static final Set<String> LIBRARY = Set.of("String.length", "String.charAt",
            "Integer.bitCount", "Math.min", "Math.max", "System.arraycopy", "Object.<init>");
    private static final int MOST_PARAMETERS = 7;
    private static final int MOST_LINES = 60;
    private static final int MOST_CLASSES = 12;
    private static final int MOST_FIELDS = 20;
    private static final int DEEPEST = 8;

    private final Trees trees;
    private final CompilationUnitTree unit;
    private final Map<Element, Set<Element>> calls = new HashMap<>();
    private int classes = 0;

    private LanguageTest(Trees trees, CompilationUnitTree unit) {
        this.trees = trees;
        this.unit = unit;
    }

    public static void main(String[] args) throws Exception {
        var compiler = ToolProvider.getSystemJavaCompiler();
        try (StandardJavaFileManager files = compiler.getStandardFileManager(null, null, null)) {
            JavacTask task = (JavacTask) compiler.getTask(null, files, null, List.of("-proc:none"),
                    null, files.getJavaFileObjects(PROGRAM));
            CompilationUnitTree unit = task.parse().iterator().next();
            task.analyze();
            LanguageTest test = new LanguageTest(Trees.instance(task), unit);
            test.scan(unit, null);
            test.expectWhole();
        }
        EXPECT.finish();
    }

    private void expect(int rule, String what, boolean holds) {
        EXPECT.equal("rule " + rule + ": " + what, holds ? 1 : 0, 1);
    }

    private void refuse(int rule, Tree tree) {
        expect(rule, "not to be used: " + tree, false);
    }

    private Element element() {
        return trees.getElement(getCurrentPath());
    }

    private TypeMirror typeOf(Tree tree) {
        return trees.getTypeMirror(new TreePath(getCurrentPath(), tree));
    }

    private static boolean isOwn(Element element) {
        Element top = element;
        while (top.getEnclosingElement() != null && top.getKind() != ElementKind.PACKAGE
                && top.getEnclosingElement().getKind() != ElementKind.PACKAGE) {
            top = top.getEnclosingElement();
        }
        return top.getSimpleName().contentEquals("ClimbingHall");
    }

    private void expectWhole() {
        expect(1, "no package", unit.getPackageName() == null);
        expect(1, "one class, with all others inside", unit.getTypeDecls().size() == 1);
        expect(11, classes + " classes", classes <= MOST_CLASSES);
        for (Element method : calls.keySet()) {
            int depth = depthOf(method, new LinkedHashSet<>());
            expect(11, method + " goes " + depth + " deep", depth <= DEEPEST);
        }
    }

    /** How many methods stand open at once; far too many if one of them calls itself. */
    private int depthOf(Element method, Set<Element> open) {
        if (!open.add(method)) {
            return MOST_LINES;
        }
        int deepest = 0;
        for (Element called : calls.getOrDefault(method, Set.of())) {
            deepest = Math.max(deepest, depthOf(called, open));
        }
        open.remove(method);
        return deepest + 1;
    }

    @Override
    public Void visitImport(ImportTree tree, Void none) {
        expect(4, "import of " + tree.getQualifiedIdentifier(),
                IMPORTS.contains(tree.getQualifiedIdentifier().toString()));
        return null;
    }

    // ---- Classes, fields and methods

    @Override
    public Void visitClass(ClassTree tree, Void none) {
        classes++;
        boolean inside = getCurrentPath().getParentPath().getLeaf() instanceof ClassTree;
        expect(2, tree.getSimpleName() + " is static", !inside
                || tree.getModifiers().getFlags().contains(Modifier.STATIC));
        int fields = 0;
        for (Tree member : tree.getMembers()) {
            expect(5, "no initialiser block", member.getKind() != Tree.Kind.BLOCK);
            if (member instanceof VariableTree && !isStatic((VariableTree) member)) {
                fields++;
            }
        }
        expect(11, tree.getSimpleName() + " has " + fields + " fields", fields <= MOST_FIELDS);
        return super.visitClass(tree, none);
    }

    private static boolean isStatic(VariableTree tree) {
        return tree.getModifiers().getFlags().contains(Modifier.STATIC);
    }

    @Override
    public Void visitVariable(VariableTree tree, Void none) {
        TypeMirror type = element().asType();
        expect(3, "type of " + tree, isAllowed(type));
        if (isStatic(tree)) {
            boolean constant = ((VariableElement) element()).getConstantValue() != null;
            boolean written = tree.getInitializer() instanceof NewArrayTree
                    && ((NewArrayTree) tree.getInitializer()).getInitializers() != null;
            expect(5, "constant: " + tree, (constant || written)
                    && tree.getModifiers().getFlags().contains(Modifier.FINAL));
        }
        return super.visitVariable(tree, none);
    }

    private static boolean isAllowed(TypeMirror type) {
        if (type.getKind() == TypeKind.ARRAY) {
            TypeMirror of = ((ArrayType) type).getComponentType();
            return of.getKind() != TypeKind.ARRAY && isAllowed(of);
        }
        return type.getKind().isPrimitive() || type.toString().equals("java.lang.String")
                || type.toString().startsWith("ClimbingHall");
    }

    @Override
    public Void visitMethod(MethodTree tree, Void none) {
        expect(11, "parameters of " + tree.getName(), tree.getParameters().size() <= MOST_PARAMETERS);
        var places = trees.getSourcePositions();
        long first = unit.getLineMap().getLineNumber(places.getStartPosition(unit, tree));
        long last = unit.getLineMap().getLineNumber(places.getEndPosition(unit, tree));
        expect(11, "lines of " + tree.getName(), last - first < MOST_LINES);
        calls.putIfAbsent(element(), new LinkedHashSet<>());
        return super.visitMethod(tree, none);
    }

    // ---- The library

    private void use(ExpressionTree tree) {
        Element used = element();
        TreePath method = getCurrentPath();
        while (method != null && !(method.getLeaf() instanceof MethodTree)) {
            method = method.getParentPath();
        }
        if (!isOwn(used)) {
            String name = used.getEnclosingElement().getSimpleName() + "." + used.getSimpleName();
            expect(4, "library: " + tree, LIBRARY.contains(name));
        } else if (method != null) {
            calls.computeIfAbsent(trees.getElement(method), key -> new LinkedHashSet<>()).add(used);
        }
    }

    @Override
    public Void visitMethodInvocation(MethodInvocationTree tree, Void none) {
        use(tree);
        return super.visitMethodInvocation(tree, none);
    }

    @Override
    public Void visitNewClass(NewClassTree tree, Void none) {
        boolean thrown = getCurrentPath().getParentPath().getLeaf() instanceof ThrowTree;
        if (!thrown) {
            use(tree);
        }
        return super.visitNewClass(tree, none);
    }

    @Override
    public Void visitMemberSelect(MemberSelectTree tree, Void none) {
        Element used = element();
        boolean constant = used != null && used.getKind() == ElementKind.FIELD
                && used.getEnclosingElement() instanceof TypeElement && !isOwn(used);
        // The length of an array is a field of no class that could be named.
        boolean length = tree.getIdentifier().contentEquals("length")
                && typeOf(tree.getExpression()).getKind() == TypeKind.ARRAY;
        expect(4, "library: " + tree, !constant || length);
        return super.visitMemberSelect(tree, none);
    }

    // ---- Exceptions and texts

    @Override
    public Void visitThrow(ThrowTree tree, Void none) {
        boolean plain = tree.getExpression() instanceof NewClassTree;
        if (plain) {
            NewClassTree made = (NewClassTree) tree.getExpression();
            boolean text = made.getArguments().stream().allMatch(one -> one instanceof LiteralTree);
            plain = EXCEPTIONS.contains(made.getIdentifier().toString()) && text
                    && made.getArguments().size() <= 1;
        }
        expect(6, "plain: " + tree, plain);
        return super.visitThrow(tree, none);
    }

    @Override
    public Void visitTry(TryTree tree, Void none) {
        refuse(6, tree);
        return null;
    }

    @Override
    public Void visitSynchronized(SynchronizedTree tree, Void none) {
        refuse(6, tree);
        return null;
    }

    @Override
    public Void visitAssert(AssertTree tree, Void none) {
        refuse(6, tree);
        return null;
    }

    @Override
    public Void visitLambdaExpression(LambdaExpressionTree tree, Void none) {
        refuse(2, tree);
        return null;
    }

    @Override
    public Void visitMemberReference(MemberReferenceTree tree, Void none) {
        refuse(2, tree);
        return null;
    }

    @Override
    public Void visitLiteral(LiteralTree tree, Void none) {
        String text = tree.getValue() instanceof String ? (String) tree.getValue() : "";
        expect(4, "signs of " + tree, text.chars().allMatch(sign -> sign >= 1 && sign <= 127));
        return super.visitLiteral(tree, none);
    }

    @Override
    public Void visitBinary(BinaryTree tree, Void none) {
        expect(10, "no joined text: " + tree, !typeOf(tree).toString().endsWith("String"));
        boolean texts = typeOf(tree.getLeftOperand()).toString().endsWith("String");
        boolean compared = tree.getKind() == Tree.Kind.EQUAL_TO || tree.getKind() == Tree.Kind.NOT_EQUAL_TO;
        expect(6, "no texts between: " + tree, !(texts && compared));
        return super.visitBinary(tree, none);
    }

    @Override
    public Void visitCompoundAssignment(CompoundAssignmentTree tree, Void none) {
        expect(10, "no joined text: " + tree, !typeOf(tree.getVariable()).toString().endsWith("String"));
        return super.visitCompoundAssignment(tree, none);
    }
}
