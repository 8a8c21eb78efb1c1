import com.sun.source.tree.AssertTree;
import com.sun.source.tree.CatchTree;
import com.sun.source.tree.ClassTree;
import com.sun.source.tree.CompilationUnitTree;
import com.sun.source.tree.DoWhileLoopTree;
import com.sun.source.tree.ForLoopTree;
import com.sun.source.tree.ImportTree;
import com.sun.source.tree.LambdaExpressionTree;
import com.sun.source.tree.MemberReferenceTree;
import com.sun.source.tree.MethodInvocationTree;
import com.sun.source.tree.MethodTree;
import com.sun.source.tree.NewArrayTree;
import com.sun.source.tree.NewClassTree;
import com.sun.source.tree.SynchronizedTree;
import com.sun.source.tree.ThrowTree;
import com.sun.source.tree.Tree;
import com.sun.source.tree.TryTree;
import com.sun.source.tree.VariableTree;
import com.sun.source.tree.WhileLoopTree;
import com.sun.source.util.JavacTask;
import com.sun.source.util.TreePathScanner;
import com.sun.source.util.Trees;
import java.io.IOException;
import java.nio.file.Path;
import java.util.HashMap;
import java.util.HashSet;
import java.util.LinkedHashSet;
import java.util.List;
import java.util.Map;
import java.util.Set;
import javax.lang.model.element.Element;
import javax.lang.model.element.ElementKind;
import javax.lang.model.element.Modifier;
import javax.lang.model.element.TypeElement;
import javax.tools.JavaCompiler;
import javax.tools.StandardJavaFileManager;
import javax.tools.ToolProvider;

/** The class is read as the compiler reads it, and held to the rules of LANGUAGE.md that can be seen so. */
public final class LanguageTest extends TreePathScanner<Void, Void> {
    private static final Set<String> LIBRARY = Set.of("java.lang.Math.abs", "java.lang.Math.max", "java.lang.Math.min",
        "java.lang.Integer.bitCount", "java.lang.Integer.signum", "java.lang.System.arraycopy");
    private static final Set<String> TYPES = Set.of("int", "long", "boolean", "int[]");
    private static final int MOST_LINES = 60;
    private static final int MOST_DEEP = 8;

    private final Trees trees;
    private final CompilationUnitTree unit;
    private final Map<Element, Set<Element>> calls = new HashMap<>();
    private Element within = null;
    private int classes = 0;

    private LanguageTest(Trees trees, CompilationUnitTree unit) {
        this.trees = trees;
        this.unit = unit;
    }

    public static void main(String[] args) throws IOException {
        JavaCompiler compiler = ToolProvider.getSystemJavaCompiler();
        try (StandardJavaFileManager files = compiler.getStandardFileManager(null, null, null)) {
            JavacTask task = (JavacTask) compiler.getTask(null, files, null, List.of("-proc:none"), null,
                files.getJavaFileObjects(Path.of("src/main/java/StandingLine.java")));
            CompilationUnitTree unit = task.parse().iterator().next();
            task.analyze();
            LanguageTest test = new LanguageTest(Trees.instance(task), unit);
            test.scan(unit, null);
            test.ends();
        }
        Check.end("LanguageTest");
    }

    private void not(String rule, Tree tree) {
        long line = unit.getLineMap().getLineNumber(trees.getSourcePositions().getStartPosition(unit, tree));
        Check.holds(rule + " (line " + line + "): " + tree.toString().lines().findFirst().orElse(""), false);
    }

    private void ends() {
        Check.holds("11: some twelve classes: " + classes, classes <= 12);
        for (Element method : calls.keySet()) {
            if (method.getModifiers().contains(Modifier.PUBLIC)) {
                int deep = depthOf(method, new LinkedHashSet<>());
                Check.holds("11: " + method + " goes " + deep + " deep", deep <= MOST_DEEP);
            }
        }
    }

    /** How many calls stand open at the most, one that calls itself counted once. */
    private int depthOf(Element method, Set<Element> open) {
        if (!open.add(method)) {
            Check.holds("8: only playTurns calls itself, not " + method,
                method.getSimpleName().contentEquals("playTurns"));
            return 0;
        }
        int deepest = 0;
        for (Element called : calls.getOrDefault(method, Set.of())) {
            if (called != method || !method.getSimpleName().contentEquals("playTurns")) {
                deepest = Math.max(deepest, depthOf(called, open));
            }
        }
        open.remove(method);
        return 1 + deepest;
    }

    @Override
    public Void visitClass(ClassTree tree, Void none) {
        classes++;
        Element element = trees.getElement(getCurrentPath());
        boolean isOuter = element.getEnclosingElement().getKind() == ElementKind.PACKAGE;
        if (!isOuter && (element.getEnclosingElement().getKind() != ElementKind.CLASS
            || !element.getModifiers().contains(Modifier.STATIC))) {
            not("2: classes inside are static and members", tree);
        }
        long fields = tree.getMembers().stream().filter(member -> member instanceof VariableTree field
            && !field.getModifiers().getFlags().contains(Modifier.STATIC)).count();
        Check.holds("11: some twenty fields: " + element, fields <= 20);
        Check.holds("5: no static initialiser: " + element,
            tree.getMembers().stream().noneMatch(member -> member.getKind() == Tree.Kind.BLOCK));
        return super.visitClass(tree, none);
    }

    @Override
    public Void visitMethod(MethodTree tree, Void none) {
        Element element = trees.getElement(getCurrentPath());
        long first = unit.getLineMap().getLineNumber(trees.getSourcePositions().getStartPosition(unit, tree));
        long last = unit.getLineMap().getLineNumber(trees.getSourcePositions().getEndPosition(unit, tree));
        if (last - first >= MOST_LINES) {
            not("11: methods stay short", tree);
        }
        if (tree.getParameters().size() > 7) {
            not("11: at most seven parameters", tree);
        }
        within = element;
        calls.computeIfAbsent(element, key -> new HashSet<>());
        super.visitMethod(tree, none);
        within = null;
        return null;
    }

    @Override
    public Void visitVariable(VariableTree tree, Void none) {
        Element element = trees.getElement(getCurrentPath());
        String type = element.asType().toString();
        boolean isOwn = type.replace("[]", "").startsWith("StandingLine.") && !type.endsWith("[][]");
        if (!TYPES.contains(type) && !isOwn) {
            not("3: a type of the language", tree);
        }
        if (element.getModifiers().contains(Modifier.STATIC) && !element.getModifiers().contains(Modifier.FINAL)) {
            not("5: static fields are final", tree);
        }
        return super.visitVariable(tree, none);
    }

    @Override
    public Void visitMethodInvocation(MethodInvocationTree tree, Void none) {
        Element called = trees.getElement(getCurrentPath());
        TypeElement owner = (TypeElement) called.getEnclosingElement();
        String name = owner.getQualifiedName() + "." + called.getSimpleName();
        boolean isOwn = name.startsWith("StandingLine.");
        boolean isSuper = called.getKind() == ElementKind.CONSTRUCTOR;
        if (!isOwn && !isSuper && !LIBRARY.contains(name)) {
            not("4: the library", tree);
        }
        if (isOwn && within != null) {
            calls.get(within).add(called);
        }
        return super.visitMethodInvocation(tree, none);
    }

    @Override
    public Void visitNewClass(NewClassTree tree, Void none) {
        if (within != null || tree.getClassBody() != null) {
            not("12: objects are made with their owner alone, by no call", tree);
        }
        return super.visitNewClass(tree, none);
    }

    @Override
    public Void visitNewArray(NewArrayTree tree, Void none) {
        if (within != null) {
            not("12: rows are made with their owner alone, by no call", tree);
        }
        return super.visitNewArray(tree, none);
    }

    @Override
    public Void visitForLoop(ForLoopTree tree, Void none) {
        if (tree.getCondition() == null || tree.getUpdate().size() != 1) {
            not("9: a counter against a bound", tree);
        }
        return super.visitForLoop(tree, none);
    }

    /** The two that are no counted loops have a counter of their own: acts up to SIGNS, halvings down to 0. */
    @Override
    public Void visitWhileLoop(WhileLoopTree tree, Void none) {
        String condition = tree.getCondition().toString();
        if (!condition.contains("acts < SIGNS") && !condition.contains("halvings > 0")) {
            not("9: an end that can be seen", tree);
        }
        return super.visitWhileLoop(tree, none);
    }

    @Override
    public Void visitDoWhileLoop(DoWhileLoopTree tree, Void none) {
        not("9: an end that can be seen", tree);
        return super.visitDoWhileLoop(tree, none);
    }

    @Override
    public Void visitImport(ImportTree tree, Void none) {
        not("4: no library but what is listed", tree);
        return super.visitImport(tree, none);
    }

    @Override
    public Void visitLambdaExpression(LambdaExpressionTree tree, Void none) {
        not("2: no lambda", tree);
        return super.visitLambdaExpression(tree, none);
    }

    @Override
    public Void visitMemberReference(MemberReferenceTree tree, Void none) {
        not("2: no method reference", tree);
        return super.visitMemberReference(tree, none);
    }

    @Override
    public Void visitThrow(ThrowTree tree, Void none) {
        not("6: no throw", tree);
        return super.visitThrow(tree, none);
    }

    @Override
    public Void visitTry(TryTree tree, Void none) {
        not("6: no try", tree);
        return super.visitTry(tree, none);
    }

    @Override
    public Void visitCatch(CatchTree tree, Void none) {
        not("6: no catch", tree);
        return super.visitCatch(tree, none);
    }

    @Override
    public Void visitSynchronized(SynchronizedTree tree, Void none) {
        not("6: no synchronized", tree);
        return super.visitSynchronized(tree, none);
    }

    @Override
    public Void visitAssert(AssertTree tree, Void none) {
        not("6: no assert", tree);
        return super.visitAssert(tree, none);
    }
}
