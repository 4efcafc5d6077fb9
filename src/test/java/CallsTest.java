import com.sun.source.tree.AssertTree;
import com.sun.source.tree.CompilationUnitTree;
import com.sun.source.tree.LambdaExpressionTree;
import com.sun.source.tree.MemberReferenceTree;
import com.sun.source.tree.MethodInvocationTree;
import com.sun.source.tree.MethodTree;
import com.sun.source.tree.NewClassTree;
import com.sun.source.tree.SynchronizedTree;
import com.sun.source.tree.ThrowTree;
import com.sun.source.tree.Tree;
import com.sun.source.tree.TryTree;
import com.sun.source.util.JavacTask;
import com.sun.source.util.TreePathScanner;
import com.sun.source.util.Trees;
import java.io.IOException;
import java.nio.file.Path;
import java.util.ArrayList;
import java.util.HashMap;
import java.util.List;
import java.util.Map;
import java.util.Set;
import java.util.TreeSet;
import javax.lang.model.element.Element;
import javax.lang.model.element.TypeElement;
import javax.tools.JavaCompiler;
import javax.tools.StandardJavaFileManager;
import javax.tools.ToolProvider;

/**
 * The rules of LANGUAGE.md that show in what calls what, as javac reads the source: rule 4 (the library), 6 (nothing thrown
 * or caught), 8 (the class needs no recursion, so that there is none) and 11 (calls go at most eight deep).
 */
public final class CallsTest extends TreePathScanner<Void, Void> {
    private static final String SOURCE = "src/main/java/WellMap.java";
    private static final int DEEPEST = 8;
    /** What the class needs of rule 4's list; a change that needs more of that list may add it here. */
    private static final Set<String> LIBRARY = Set.of("java.lang.Object.<init>", "java.lang.Math.min", "java.lang.Math.max",
            "java.lang.Math.abs", "java.lang.Long.compare", "java.lang.System.arraycopy", "java.util.Arrays.fill");

    private static int wrong = 0;

    private final Trees trees;
    private final Map<String, Set<String>> calls = new HashMap<>();
    private String method = "";

    private CallsTest(Trees trees) {
        this.trees = trees;
    }

    private static void fault(String what) {
        wrong++;
        if (wrong <= 20) System.out.println(what);
    }

    private static String nameOf(Element of) {
        return ((TypeElement) of.getEnclosingElement()).getQualifiedName() + "." + of.getSimpleName();
    }

    private void calls(Element called) {
        String name = nameOf(called);
        if (name.startsWith("WellMap.")) calls.get(method).add(name);
        else if (!LIBRARY.contains(name)) fault(method + " calls " + name);
    }

    private void ruledOut(Tree tree) {
        fault(method + " has " + tree.getKind() + ": " + tree);
    }

    @Override public Void visitMethod(MethodTree tree, Void none) {
        method = nameOf(trees.getElement(getCurrentPath()));
        calls.putIfAbsent(method, new TreeSet<>());
        super.visitMethod(tree, none);
        method = "";
        return null;
    }

    @Override public Void visitMethodInvocation(MethodInvocationTree tree, Void none) {
        calls(trees.getElement(getCurrentPath()));
        return super.visitMethodInvocation(tree, none);
    }

    @Override public Void visitNewClass(NewClassTree tree, Void none) {
        calls(trees.getElement(getCurrentPath()));
        return super.visitNewClass(tree, none);
    }

    @Override public Void visitThrow(ThrowTree tree, Void none) {
        ruledOut(tree);
        return super.visitThrow(tree, none);
    }

    @Override public Void visitTry(TryTree tree, Void none) {
        ruledOut(tree);
        return super.visitTry(tree, none);
    }

    @Override public Void visitSynchronized(SynchronizedTree tree, Void none) {
        ruledOut(tree);
        return super.visitSynchronized(tree, none);
    }

    @Override public Void visitAssert(AssertTree tree, Void none) {
        ruledOut(tree);
        return super.visitAssert(tree, none);
    }

    @Override public Void visitLambdaExpression(LambdaExpressionTree tree, Void none) {
        ruledOut(tree);
        return super.visitLambdaExpression(tree, none);
    }

    @Override public Void visitMemberReference(MemberReferenceTree tree, Void none) {
        ruledOut(tree);
        return super.visitMemberReference(tree, none);
    }

    private int depth(String of, List<String> open) {
        if (open.contains(of)) {
            fault("calls itself: " + of + ", by " + open);
            return 0;
        }
        open.add(of);
        int deepest = 0;
        for (String called : calls.getOrDefault(of, Set.of())) deepest = Math.max(deepest, depth(called, open));
        open.remove(open.size() - 1);
        return deepest + 1;
    }

    private int deepest() {
        int deepest = 0;
        for (String of : new TreeSet<>(calls.keySet())) {
            int depth = depth(of, new ArrayList<>());
            if (depth > DEEPEST) fault(of + " goes " + depth + " deep");
            deepest = Math.max(deepest, depth);
        }
        return deepest;
    }

    public static void main(String[] args) throws IOException {
        JavaCompiler compiler = ToolProvider.getSystemJavaCompiler();
        int deepest;
        try (StandardJavaFileManager files = compiler.getStandardFileManager(null, null, null)) {
            JavacTask task = (JavacTask) compiler.getTask(null, files, null, null, null, files.getJavaFileObjects(Path.of(SOURCE)));
            CallsTest reader = new CallsTest(Trees.instance(task));
            Iterable<? extends CompilationUnitTree> units = task.parse();
            task.analyze();
            for (CompilationUnitTree unit : units) reader.scan(unit, null);
            deepest = reader.deepest();
        }
        // Were nothing read, nothing would be found wrong.
        if (deepest < 3) fault("the calls were not read");
        System.out.println(wrong == 0 ? "calls go " + deepest + " deep" : wrong + " faults");
        if (wrong != 0) System.exit(1);
    }
}
