import com.sun.source.tree.AssertTree;
import com.sun.source.tree.BinaryTree;
import com.sun.source.tree.BlockTree;
import com.sun.source.tree.ClassTree;
import com.sun.source.tree.CompilationUnitTree;
import com.sun.source.tree.DoWhileLoopTree;
import com.sun.source.tree.ExpressionTree;
import com.sun.source.tree.ForLoopTree;
import com.sun.source.tree.ImportTree;
import com.sun.source.tree.LambdaExpressionTree;
import com.sun.source.tree.LiteralTree;
import com.sun.source.tree.MemberReferenceTree;
import com.sun.source.tree.MethodInvocationTree;
import com.sun.source.tree.MethodTree;
import com.sun.source.tree.NewArrayTree;
import com.sun.source.tree.NewClassTree;
import com.sun.source.tree.SynchronizedTree;
import com.sun.source.tree.ThrowTree;
import com.sun.source.tree.Tree;
import com.sun.source.tree.TryTree;
import com.sun.source.tree.VariableTree;
import com.sun.source.tree.WhileLoopTree;
import com.sun.source.util.JavacTask;
import com.sun.source.util.TreePath;
import com.sun.source.util.TreePathScanner;
import com.sun.source.util.Trees;
import java.io.File;
import java.io.IOException;
import java.util.HashMap;
import java.util.HashSet;
import java.util.List;
import java.util.Map;
import java.util.Set;
import java.util.TreeMap;
import javax.lang.model.element.Element;
import javax.lang.model.element.ElementKind;
import javax.lang.model.type.TypeMirror;
import javax.tools.JavaCompiler;
import javax.tools.StandardJavaFileManager;
import javax.tools.ToolProvider;

/** What of LANGUAGE.md the program's source shows: rules 2 to 6, 9, 11 and 12. FaceTest has those of its face. */
public final class LanguageTest extends TreePathScanner<Void, Void> {
    private static final File PROGRAM = new File("src/main/java/PascalDesk.java");
    private static final int MOST_LINES = 60;
    private static final int MOST_DEEP = 8;
    /** What the program needs of the types and the library that the rules allow; wider than that it may not grow unseen. */
    private static final Set<String> TYPES = Set.of("int", "long", "char", "boolean", "double", "int[]", "char[]", "double[]");
    private static final Set<String> LIBRARY = Set.of("Math.max(int,int)", "Math.min(int,int)");
    private static final Set<String> THROWN = Set.of("IllegalStateException", "IllegalArgumentException",
            "IndexOutOfBoundsException", "ArithmeticException", "NoSuchElementException");

    private final CompilationUnitTree unit;
    private final Trees trees;
    private final Map<Element, Set<Element>> calls = new HashMap<>();
    private Element method;

    private LanguageTest(CompilationUnitTree unit, Trees trees) {
        this.unit = unit;
        this.trees = trees;
    }

    public static void main(String[] args) throws IOException {
        JavaCompiler compiler = ToolProvider.getSystemJavaCompiler();
        StandardJavaFileManager files = compiler.getStandardFileManager(null, null, null);
        JavacTask task = (JavacTask) compiler.getTask(null, files, null, List.of("--release", "17"), null, files.getJavaFileObjects(PROGRAM));
        CompilationUnitTree unit = task.parse().iterator().next();
        task.analyze();
        LanguageTest test = new LanguageTest(unit, Trees.instance(task));
        test.scan(unit, null);
        test.callsGoNotTooDeep();
        Desk.end();
    }

    private void holds(Tree where, String what, boolean so) {
        long line = unit.getLineMap().getLineNumber(trees.getSourcePositions().getStartPosition(unit, where));
        Desk.due("line " + line + ": " + what, so ? 1 : 0, 1);
    }

    private void never(Tree where, String what) {
        holds(where, "no " + what, false);
    }

    private boolean isOwn(Element one) {
        Element outermost = one;
        while (outermost.getEnclosingElement().getKind() != ElementKind.PACKAGE) {
            outermost = outermost.getEnclosingElement();
        }
        return outermost.getSimpleName().contentEquals("PascalDesk");
    }

    private boolean isAllowed(TypeMirror type) {
        String name = type.toString();
        return TYPES.contains(name) || name.matches("PascalDesk\\.\\w+(\\[\\])?");
    }

    @Override
    public Void visitImport(ImportTree one, Void nothing) {
        holds(one, "imports only what it throws", one.getQualifiedIdentifier().toString().equals("java.util.NoSuchElementException"));
        return null;
    }

    @Override
    public Void visitClass(ClassTree one, Void nothing) {
        Tree around = getCurrentPath().getParentPath().getLeaf();
        holds(one, "a class stands in the file or in a class", around == unit || around instanceof ClassTree);
        return super.visitClass(one, nothing);
    }

    @Override
    public Void visitMethod(MethodTree one, Void nothing) {
        method = trees.getElement(getCurrentPath());
        calls.put(method, new HashSet<>());
        long first = trees.getSourcePositions().getStartPosition(unit, one);
        long last = trees.getSourcePositions().getEndPosition(unit, one);
        if (last > 0) {
            long lines = unit.getLineMap().getLineNumber(last) - unit.getLineMap().getLineNumber(first) + 1;
            holds(one, one.getName() + " has at most " + MOST_LINES + " lines", lines <= MOST_LINES);
        }
        super.visitMethod(one, nothing);
        method = null;
        return null;
    }

    @Override
    public Void visitVariable(VariableTree one, Void nothing) {
        TypeMirror type = trees.getElement(getCurrentPath()).asType();
        holds(one, one.getName() + " is of an allowed type", isAllowed(type));
        return super.visitVariable(one, nothing);
    }

    @Override
    public Void visitMethodInvocation(MethodInvocationTree one, Void nothing) {
        Element called = trees.getElement(getCurrentPath());
        if (isOwn(called)) {
            calls.get(method).add(called);
        } else if (!one.getMethodSelect().toString().equals("super")) {
            String name = called.getEnclosingElement().getSimpleName() + "." + called;
            holds(one, name + " is in the library", LIBRARY.contains(name));
        }
        return super.visitMethodInvocation(one, nothing);
    }

    @Override
    public Void visitNewClass(NewClassTree one, Void nothing) {
        boolean thrown = getCurrentPath().getParentPath().getLeaf() instanceof ThrowTree;
        boolean inConstructor = method != null && method.getKind() == ElementKind.CONSTRUCTOR;
        holds(one, "objects are made in constructors, or thrown", thrown || inConstructor);
        Element made = trees.getElement(getCurrentPath());
        if (isOwn(made)) {
            calls.get(method).add(made);
        }
        return super.visitNewClass(one, nothing);
    }

    @Override
    public Void visitNewArray(NewArrayTree one, Void nothing) {
        holds(one, "rows are made in constructors", method != null && method.getKind() == ElementKind.CONSTRUCTOR);
        return super.visitNewArray(one, nothing);
    }

    @Override
    public Void visitThrow(ThrowTree one, Void nothing) {
        boolean right = one.getExpression() instanceof NewClassTree made
                && THROWN.contains(made.getIdentifier().toString())
                && made.getArguments().size() == 1
                && made.getArguments().get(0) instanceof LiteralTree;
        holds(one, "a new exception of the document's, with a written text", right);
        holds(one, "no throw in a constructor", method.getKind() != ElementKind.CONSTRUCTOR);
        return super.visitThrow(one, nothing);
    }

    @Override
    public Void visitBinary(BinaryTree one, Void nothing) {
        for (ExpressionTree side : List.of(one.getLeftOperand(), one.getRightOperand())) {
            TypeMirror type = trees.getTypeMirror(new TreePath(getCurrentPath(), side));
            holds(one, side + " is a number or a boolean", TYPES.contains(type.toString()));
        }
        return super.visitBinary(one, nothing);
    }

    @Override
    public Void visitBlock(BlockTree one, Void nothing) {
        boolean initialiser = getCurrentPath().getParentPath().getLeaf() instanceof ClassTree;
        holds(one, "no initialiser block", !initialiser);
        return super.visitBlock(one, nothing);
    }

    @Override
    public Void visitForLoop(ForLoopTree one, Void nothing) {
        boolean counts = one.getInitializer().size() == 1 && one.getCondition() != null && one.getUpdate().size() == 1;
        holds(one, "a loop has a counter against a bound", counts);
        return super.visitForLoop(one, nothing);
    }

    @Override
    public Void visitWhileLoop(WhileLoopTree one, Void nothing) {
        never(one, "while, as every loop here has a counter");
        return null;
    }

    @Override
    public Void visitDoWhileLoop(DoWhileLoopTree one, Void nothing) {
        never(one, "do, as every loop here has a counter");
        return null;
    }

    @Override
    public Void visitLambdaExpression(LambdaExpressionTree one, Void nothing) {
        never(one, "lambda");
        return null;
    }

    @Override
    public Void visitMemberReference(MemberReferenceTree one, Void nothing) {
        never(one, "method reference");
        return null;
    }

    @Override
    public Void visitTry(TryTree one, Void nothing) {
        never(one, "try, as nothing of the program's own is caught");
        return null;
    }

    @Override
    public Void visitSynchronized(SynchronizedTree one, Void nothing) {
        never(one, "synchronized");
        return null;
    }

    @Override
    public Void visitAssert(AssertTree one, Void nothing) {
        never(one, "assert");
        return null;
    }

    /** Methods that call one another count as one, being a recursion. */
    private void callsGoNotTooDeep() {
        Map<Element, Set<Element>> reached = new HashMap<>();
        for (Element one : calls.keySet()) {
            Set<Element> all = new HashSet<>();
            reach(one, all);
            reached.put(one, all);
        }
        Map<String, Integer> deep = new TreeMap<>();
        for (Element one : calls.keySet()) {
            deep.put(one.getEnclosingElement().getSimpleName() + "." + one, deepest(one, reached, new HashMap<>()));
        }
        deep.forEach((name, levels) -> Desk.due(name + " goes " + levels + " deep, at most 8", levels <= MOST_DEEP ? 1 : 0, 1));
    }

    private void reach(Element from, Set<Element> all) {
        for (Element next : calls.getOrDefault(from, Set.of())) {
            if (all.add(next)) {
                reach(next, all);
            }
        }
    }

    private int deepest(Element one, Map<Element, Set<Element>> reached, Map<Element, Integer> known) {
        if (known.containsKey(one)) {
            return known.get(one);
        }
        Set<Element> together = new HashSet<>(Set.of(one));
        for (Element other : reached.getOrDefault(one, Set.of())) {
            if (reached.getOrDefault(other, Set.of()).contains(one)) {
                together.add(other);
            }
        }
        int below = 0;
        for (Element member : together) {
            for (Element next : calls.getOrDefault(member, Set.of())) {
                if (!together.contains(next)) {
                    below = Math.max(below, deepest(next, reached, known));
                }
            }
        }
        known.put(one, below + 1);
        return below + 1;
    }
}
