import com.sun.source.tree.AssertTree;
import com.sun.source.tree.BinaryTree;
import com.sun.source.tree.BlockTree;
import com.sun.source.tree.ClassTree;
import com.sun.source.tree.CompilationUnitTree;
import com.sun.source.tree.LambdaExpressionTree;
import com.sun.source.tree.MemberReferenceTree;
import com.sun.source.tree.MethodInvocationTree;
import com.sun.source.tree.MethodTree;
import com.sun.source.tree.NewArrayTree;
import com.sun.source.tree.NewClassTree;
import com.sun.source.tree.SynchronizedTree;
import com.sun.source.tree.ThrowTree;
import com.sun.source.tree.Tree;
import com.sun.source.tree.TryTree;
import com.sun.source.tree.VariableTree;
import com.sun.source.util.JavacTask;
import com.sun.source.util.TreePathScanner;
import com.sun.source.util.Trees;
import java.io.IOException;
import java.net.URI;
import java.util.ArrayList;
import java.util.HashMap;
import java.util.List;
import java.util.Map;
import java.util.Set;
import java.util.TreeSet;
import javax.lang.model.element.Element;
import javax.lang.model.element.ElementKind;
import javax.lang.model.element.Modifier;
import javax.lang.model.element.TypeElement;
import javax.tools.JavaFileObject;
import javax.tools.SimpleJavaFileObject;
import javax.tools.ToolProvider;

/** Reads a source by the compiler's own eyes and tells what in it is outside LANGUAGE.md. */
final class Rules extends TreePathScanner<Void, Void> {
    private static final int MOST_LINES = 60, MOST_PARAMETERS = 7, MOST_CLASSES = 12, MOST_FIELDS = 20;
    private static final int MOST_DEPTH = 8;
    // Less than LANGUAGE.md leaves: only what the class has needed so far.
    private static final Set<String> LIBRARY = Set.of(
        "java.lang.Math.min", "java.lang.Math.max", "java.lang.Math.abs", "java.lang.System.arraycopy");
    private static final Set<String> CONSTANTS =
        Set.of("int", "long", "boolean", "char", "java.lang.String", "int[]", "long[]", "char[]", "byte[]");

    private final List<String> faults = new ArrayList<>();
    private final Map<String, Set<String>> calls = new HashMap<>();
    private Trees trees;
    private CompilationUnitTree unit;
    private int classes = 0;

    static List<String> faultsOf(String source) throws IOException {
        JavaFileObject file = new SimpleJavaFileObject(URI.create("mem:///SlipStore.java"), JavaFileObject.Kind.SOURCE) {
            @Override
            public CharSequence getCharContent(boolean ignoreEncodingErrors) {
                return source;
            }
        };
        JavacTask task = (JavacTask) ToolProvider.getSystemJavaCompiler()
            .getTask(null, null, d -> { }, List.of("-proc:none"), null, List.of(file));
        Rules rules = new Rules();
        rules.unit = task.parse().iterator().next();
        if (!task.analyze().iterator().hasNext()) {
            rules.faults.add("the source can't be compiled");
        }
        rules.trees = Trees.instance(task);
        rules.scan(rules.unit, null);
        rules.lookAtCalls();
        return rules.faults;
    }

    private void fault(String rule, Tree tree) {
        long start = trees.getSourcePositions().getStartPosition(unit, tree);
        faults.add("rule " + rule + " at line " + unit.getLineMap().getLineNumber(start));
    }

    private void lookAtCalls() {
        for (String method : calls.keySet()) {
            int depth = depthFrom(method, new ArrayList<>());
            if (depth > MOST_DEPTH) {
                faults.add("rule 11: calls go " + depth + " deep from " + method);
            }
        }
        if (classes > MOST_CLASSES) {
            faults.add("rule 11: " + classes + " classes");
        }
    }

    /** How many calls stand open at once below and with this one. The class has no recursion so far. */
    private int depthFrom(String method, List<String> open) {
        if (open.contains(method)) {
            faults.add("rule 8: recursion of " + method);
            return 0;
        }
        int deepest = 0;
        open.add(method);
        for (String called : calls.getOrDefault(method, Set.of())) {
            deepest = Math.max(deepest, depthFrom(called, open));
        }
        open.remove(method);
        return deepest + 1;
    }

    /** The method that a tree stands in; what stands in a field belongs to the making of the object. */
    private String enclosing() {
        Element at = null;
        for (var path = getCurrentPath(); path != null; path = path.getParentPath()) {
            Tree leaf = path.getLeaf();
            if (leaf instanceof MethodTree) {
                return nameOf(trees.getElement(path));
            }
            if (leaf instanceof ClassTree && at == null) {
                at = trees.getElement(path);
            }
        }
        return at + ".<init>";
    }

    private static String nameOf(Element method) {
        return method.getEnclosingElement() + "." + method.getSimpleName();
    }

    private boolean isOurs(Element element) {
        Element top = element;
        while (top.getEnclosingElement() != null && top.getEnclosingElement().getKind() != ElementKind.PACKAGE) {
            top = top.getEnclosingElement();
        }
        return top.getSimpleName().contentEquals("SlipStore");
    }

    private void call(Element called, Tree tree) {
        if (called == null) {
            fault("4, a call of something unknown", tree);
        } else if (isOurs(called)) {
            calls.computeIfAbsent(enclosing(), k -> new TreeSet<>()).add(nameOf(called));
        } else if (!LIBRARY.contains(nameOf(called))) {
            fault("4, a call of " + nameOf(called), tree);
        }
    }

    @Override
    public Void visitMethodInvocation(MethodInvocationTree tree, Void none) {
        Element called = trees.getElement(getCurrentPath());
        // Each constructor begins with a call of Object's that nobody has written.
        if (called == null || !nameOf(called).equals("java.lang.Object.<init>")) {
            call(called, tree);
        }
        return super.visitMethodInvocation(tree, none);
    }

    @Override
    public Void visitNewClass(NewClassTree tree, Void none) {
        call(trees.getElement(getCurrentPath()), tree);
        making(tree);
        return super.visitNewClass(tree, none);
    }

    @Override
    public Void visitNewArray(NewArrayTree tree, Void none) {
        making(tree);
        return super.visitNewArray(tree, none);
    }

    /** Rule 12 counts what a run makes; here all is made with the object itself. */
    private void making(Tree tree) {
        if (!enclosing().endsWith(".<init>")) {
            fault("12, something is made in a call", tree);
        }
    }

    @Override
    public Void visitMethod(MethodTree tree, Void none) {
        calls.computeIfAbsent(enclosing(), k -> new TreeSet<>());
        if (tree.getParameters().size() > MOST_PARAMETERS) {
            fault("11, parameters", tree);
        }
        if (linesOf(tree) > MOST_LINES) {
            fault("11, lines", tree);
        }
        return super.visitMethod(tree, none);
    }

    private long linesOf(Tree tree) {
        long start = trees.getSourcePositions().getStartPosition(unit, tree);
        long end = trees.getSourcePositions().getEndPosition(unit, tree);
        return unit.getLineMap().getLineNumber(end) - unit.getLineMap().getLineNumber(start) + 1;
    }

    @Override
    public Void visitClass(ClassTree tree, Void none) {
        classes++;
        Element here = trees.getElement(getCurrentPath());
        boolean isTop = here.getEnclosingElement().getKind() == ElementKind.PACKAGE;
        if (!isTop && !(here.getEnclosingElement() instanceof TypeElement)) {
            fault("2, a local or nameless class", tree);
        } else if (!isTop && !here.getModifiers().contains(Modifier.STATIC)) {
            fault("2, a class inside that is not static", tree);
        }
        int fields = 0;
        for (Tree member : tree.getMembers()) {
            if (member instanceof VariableTree v && !v.getModifiers().getFlags().contains(Modifier.STATIC)) {
                fields++;
            } else if (member instanceof BlockTree b && b.isStatic()) {
                fault("5, a static block", member);
            }
        }
        if (fields > MOST_FIELDS) {
            fault("11, fields", tree);
        }
        return super.visitClass(tree, none);
    }

    @Override
    public Void visitVariable(VariableTree tree, Void none) {
        Element variable = trees.getElement(getCurrentPath());
        if (variable.getKind() == ElementKind.FIELD && variable.getModifiers().contains(Modifier.STATIC)) {
            boolean isConstant = variable.getModifiers().contains(Modifier.FINAL)
                && CONSTANTS.contains(variable.asType().toString());
            if (!isConstant) {
                fault("5, a static field", tree);
            }
        }
        return super.visitVariable(tree, none);
    }

    @Override
    public Void visitBinary(BinaryTree tree, Void none) {
        boolean joins = tree.getKind() == Tree.Kind.PLUS
            && trees.getTypeMirror(getCurrentPath()).toString().equals("java.lang.String");
        if (joins) {
            fault("10, texts joined by +", tree);
        }
        return super.visitBinary(tree, none);
    }

    @Override
    public Void visitThrow(ThrowTree tree, Void none) {
        fault("6, throw", tree);
        return super.visitThrow(tree, none);
    }

    @Override
    public Void visitTry(TryTree tree, Void none) {
        fault("6, try", tree);
        return super.visitTry(tree, none);
    }

    @Override
    public Void visitSynchronized(SynchronizedTree tree, Void none) {
        fault("6, synchronized", tree);
        return super.visitSynchronized(tree, none);
    }

    @Override
    public Void visitAssert(AssertTree tree, Void none) {
        fault("6, assert", tree);
        return super.visitAssert(tree, none);
    }

    @Override
    public Void visitLambdaExpression(LambdaExpressionTree tree, Void none) {
        fault("2, a lambda", tree);
        return super.visitLambdaExpression(tree, none);
    }

    @Override
    public Void visitMemberReference(MemberReferenceTree tree, Void none) {
        fault("2, a method reference", tree);
        return super.visitMemberReference(tree, none);
    }
}
