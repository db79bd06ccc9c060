import com.sun.source.tree.AssertTree;
import com.sun.source.tree.BinaryTree;
import com.sun.source.tree.ClassTree;
import com.sun.source.tree.CompilationUnitTree;
import com.sun.source.tree.ExpressionTree;
import com.sun.source.tree.IdentifierTree;
import com.sun.source.tree.LambdaExpressionTree;
import com.sun.source.tree.LiteralTree;
import com.sun.source.tree.MemberReferenceTree;
import com.sun.source.tree.MemberSelectTree;
import com.sun.source.tree.MethodInvocationTree;
import com.sun.source.tree.MethodTree;
import com.sun.source.tree.NewClassTree;
import com.sun.source.tree.SynchronizedTree;
import com.sun.source.tree.ThrowTree;
import com.sun.source.tree.Tree;
import com.sun.source.tree.TryTree;
import com.sun.source.tree.VariableTree;
import com.sun.source.util.JavacTask;
import com.sun.source.util.TreePathScanner;
import com.sun.source.util.Trees;
import java.io.IOException;
import java.nio.file.Path;
import java.util.HashMap;
import java.util.LinkedHashSet;
import java.util.Map;
import java.util.Set;
import javax.lang.model.element.Element;
import javax.lang.model.element.ElementKind;
import javax.lang.model.element.Modifier;
import javax.lang.model.element.TypeElement;
import javax.lang.model.element.VariableElement;
import javax.tools.JavaCompiler;
import javax.tools.StandardJavaFileManager;
import javax.tools.ToolProvider;

/**
 * Rules of LANGUAGE.md that can be seen in the source, held against what the class uses of them: a
 * name that is new to the class is looked up in the rules and then added here.
 */
public final class LanguageTest extends TreePathScanner<Void, Void> {
    private static final Path SOURCE = Path.of("src/main/java/WardRoster.java");
    private static final Set<String> LIBRARY = Set.of("Math.min", "Math.max", "Arrays.fill");
    private static final Set<String> TYPES = Set.of("int", "long", "boolean", "int[]", "long[]");
    private static final Set<String> THROWN = Set.of("IllegalStateException",
            "IllegalArgumentException", "IndexOutOfBoundsException", "NoSuchElementException");

    private final Trees trees;
    private final CompilationUnitTree unit;
    private final Map<Element, Set<Element>> calls = new HashMap<>();
    private final Set<String> ownClasses = new LinkedHashSet<>();
    private Element method;

    private LanguageTest(Trees trees, CompilationUnitTree unit) {
        this.trees = trees;
        this.unit = unit;
    }

    public static void main(String[] args) throws IOException {
        JavaCompiler compiler = ToolProvider.getSystemJavaCompiler();
        try (StandardJavaFileManager files = compiler.getStandardFileManager(null, null, null)) {
            JavacTask task = (JavacTask) compiler.getTask(
                    null, files, null, null, null, files.getJavaFileObjects(SOURCE));
            CompilationUnitTree unit = task.parse().iterator().next();
            task.analyze();
            new LanguageTest(Trees.instance(task), unit).look();
        }
        Expect.end();
    }

    private void look() {
        Expect.that("before rule 1: there is no package line", unit.getPackage() == null);
        Expect.same("before rule 1: top classes", unit.getTypeDecls().size(), 1);
        ClassTree face = (ClassTree) unit.getTypeDecls().get(0);
        ownClasses.add(face.getSimpleName().toString());
        for (Tree member : face.getMembers()) {
            if (member instanceof ClassTree) {
                ownClasses.add(((ClassTree) member).getSimpleName().toString());
            }
        }
        Expect.that("rule 11: some twelve classes", ownClasses.size() <= 12);
        scan(unit, null);
        for (Element caller : calls.keySet()) {
            Expect.that("rules 8 and 11: calls go at most eight deep from " + caller,
                    depthOf(caller, 1) <= 8);
        }
    }

    /** A method that calls itself by some way is deeper than any number of levels. */
    private int depthOf(Element caller, int level) {
        int deepest = level;
        if (level <= 8) {
            for (Element called : calls.getOrDefault(caller, Set.of())) {
                deepest = Math.max(deepest, depthOf(called, level + 1));
            }
        }
        return deepest;
    }

    private Element element() {
        return trees.getElement(getCurrentPath());
    }

    private String place(Tree tree) {
        long at = trees.getSourcePositions().getStartPosition(unit, tree);
        return "line " + unit.getLineMap().getLineNumber(at) + ": " + tree;
    }

    private int linesOf(Tree tree) {
        long first = trees.getSourcePositions().getStartPosition(unit, tree);
        long last = trees.getSourcePositions().getEndPosition(unit, tree);
        return (int) (unit.getLineMap().getLineNumber(last)
                - unit.getLineMap().getLineNumber(first) + 1);
    }

    private boolean isOwn(Element element) {
        Element outer = element.getEnclosingElement();
        return outer instanceof TypeElement
                && ownClasses.contains(outer.getSimpleName().toString());
    }

    private static String nameOf(Element member) {
        return member.getEnclosingElement().getSimpleName() + "." + member.getSimpleName();
    }

    private void refuse(int rule, Tree tree) {
        Expect.fail("rule " + rule + ", " + place(tree));
    }

    @Override
    public Void visitClass(ClassTree tree, Void none) {
        int fields = 0;
        for (Tree member : tree.getMembers()) {
            boolean isField = member instanceof VariableTree;
            boolean isConstant = isField && ((VariableTree) member).getModifiers().getFlags()
                    .contains(Modifier.STATIC);
            fields += isField && !isConstant ? 1 : 0;
            if (member.getKind() == Tree.Kind.BLOCK) {
                refuse(5, member);
            }
        }
        Expect.that("rule 11: some twenty fields in " + tree.getSimpleName(), fields <= 20);
        return super.visitClass(tree, none);
    }

    @Override
    public Void visitMethod(MethodTree tree, Void none) {
        Element outer = method;
        method = element();
        calls.putIfAbsent(method, new LinkedHashSet<>());
        if (tree.getParameters().size() > 7 || linesOf(tree) > 60) {
            refuse(11, tree);
        }
        super.visitMethod(tree, none);
        method = outer;
        return null;
    }

    @Override
    public Void visitVariable(VariableTree tree, Void none) {
        Element variable = element();
        String type = tree.getType().toString();
        if (!TYPES.contains(type) && !ownClasses.contains(type.replace("[]", ""))) {
            refuse(3, tree);
        }
        boolean isStatic = variable.getModifiers().contains(Modifier.STATIC);
        if (isStatic && ((VariableElement) variable).getConstantValue() == null) {
            refuse(5, tree);
        }
        return super.visitVariable(tree, none);
    }

    @Override
    public Void visitMethodInvocation(MethodInvocationTree tree, Void none) {
        Element called = element();
        boolean isHiddenSuper = tree.toString().equals("super()");
        if (isOwn(called)) {
            calls.computeIfAbsent(method, m -> new LinkedHashSet<>()).add(called);
        } else if (!isHiddenSuper && !LIBRARY.contains(nameOf(called))) {
            refuse(4, tree);
        }
        return super.visitMethodInvocation(tree, none);
    }

    @Override
    public Void visitMemberSelect(MemberSelectTree tree, Void none) {
        Element member = element();
        boolean isLength = tree.getIdentifier().contentEquals("length");
        if (member != null && member.getKind() == ElementKind.FIELD
                && !isOwn(member) && !isLength) {
            refuse(4, tree);
        }
        return super.visitMemberSelect(tree, none);
    }

    @Override
    public Void visitIdentifier(IdentifierTree tree, Void none) {
        Element named = element();
        boolean isThis = tree.getName().contentEquals("this");
        if (named != null && named.getKind() == ElementKind.FIELD && !isThis && !isOwn(named)) {
            refuse(4, tree);
        }
        return super.visitIdentifier(tree, none);
    }

    @Override
    public Void visitNewClass(NewClassTree tree, Void none) {
        String made = tree.getIdentifier().toString();
        boolean isThrown = getCurrentPath().getParentPath().getLeaf() instanceof ThrowTree;
        if (isThrown ? !THROWN.contains(made) : !ownClasses.contains(made)) {
            refuse(isThrown ? 6 : 4, tree);
        }
        return super.visitNewClass(tree, none);
    }

    @Override
    public Void visitThrow(ThrowTree tree, Void none) {
        boolean isNew = tree.getExpression() instanceof NewClassTree;
        if (!isNew || method.getKind() == ElementKind.CONSTRUCTOR) {
            refuse(6, tree);
        } else {
            for (ExpressionTree text : ((NewClassTree) tree.getExpression()).getArguments()) {
                if (!(text instanceof LiteralTree)) {
                    refuse(6, tree);
                }
            }
        }
        return super.visitThrow(tree, none);
    }

    @Override
    public Void visitBinary(BinaryTree tree, Void none) {
        if (trees.getTypeMirror(getCurrentPath()).toString().equals("java.lang.String")) {
            refuse(10, tree);
        }
        return super.visitBinary(tree, none);
    }

    @Override
    public Void visitLambdaExpression(LambdaExpressionTree tree, Void none) {
        refuse(2, tree);
        return super.visitLambdaExpression(tree, none);
    }

    @Override
    public Void visitMemberReference(MemberReferenceTree tree, Void none) {
        refuse(2, tree);
        return super.visitMemberReference(tree, none);
    }

    @Override
    public Void visitTry(TryTree tree, Void none) {
        refuse(6, tree);
        return super.visitTry(tree, none);
    }

    @Override
    public Void visitSynchronized(SynchronizedTree tree, Void none) {
        refuse(6, tree);
        return super.visitSynchronized(tree, none);
    }

    @Override
    public Void visitAssert(AssertTree tree, Void none) {
        refuse(6, tree);
        return super.visitAssert(tree, none);
    }
}
