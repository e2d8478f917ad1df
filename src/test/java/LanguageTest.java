import com.sun.source.tree.BinaryTree;
import com.sun.source.tree.BlockTree;
import com.sun.source.tree.ClassTree;
import com.sun.source.tree.CompilationUnitTree;
import com.sun.source.tree.ImportTree;
import com.sun.source.tree.MethodInvocationTree;
import com.sun.source.tree.MethodTree;
import com.sun.source.tree.NewArrayTree;
import com.sun.source.tree.NewClassTree;
import com.sun.source.tree.ThrowTree;
import com.sun.source.tree.Tree;
import com.sun.source.tree.VariableTree;
import com.sun.source.util.JavacTask;
import com.sun.source.util.TreeScanner;
import com.sun.source.util.TreePathScanner;
import com.sun.source.util.Trees;
import java.io.IOException;
import java.nio.file.Path;
import java.util.HashMap;
import java.util.Map;
import java.util.Set;
import java.util.TreeSet;
import javax.lang.model.element.Element;
import javax.lang.model.element.ExecutableElement;
import javax.lang.model.element.Modifier;
import javax.tools.JavaCompiler;
import javax.tools.StandardJavaFileManager;
import javax.tools.ToolProvider;

/** Those rules of ../shared/LANGUAGE.md that can be read from the source's tree. */
public final class LanguageTest extends TreePathScanner<Void, Void> {
    private static final Path SOURCE = Path.of("src/main/java/Eggboxery.java");
    private static final Set<Tree.Kind> RULED_OUT = Set.of(Tree.Kind.LAMBDA_EXPRESSION, Tree.Kind.MEMBER_REFERENCE,
            Tree.Kind.SYNCHRONIZED, Tree.Kind.ASSERT, Tree.Kind.TRY, Tree.Kind.CATCH);
    private static final Set<String> LIBRARY = Set.of("java.lang.String.indexOf", "java.util.Arrays.fill",
            "java.lang.Math.max", "java.lang.Math.min", "java.lang.Integer.bitCount", "java.lang.Long.bitCount",
            "java.lang.Object.<init>");
    private static final Set<String> IMPORTS = Set.of("java.util.Arrays", "java.util.NoSuchElementException");

    private final Trees trees;
    private final CompilationUnitTree unit;
    private final Map<Element, Set<Element>> calls = new HashMap<>();
    private final Set<String> publicNames = new TreeSet<>();
    private final Set<String> otherNames = new TreeSet<>();
    private final Map<Element, Integer> depths = new HashMap<>();
    private int classes = 0;
    private Element inMethod;
    private boolean isInConstructor;

    private LanguageTest(Trees ofTrees, CompilationUnitTree ofUnit) {
        trees = ofTrees;
        unit = ofUnit;
    }

    public static void main(String[] args) throws IOException {
        JavaCompiler compiler = ToolProvider.getSystemJavaCompiler();
        StandardJavaFileManager files = compiler.getStandardFileManager(null, null, null);
        JavacTask task = (JavacTask) compiler.getTask(null, files, null, null, null,
                files.getJavaFileObjects(SOURCE));
        CompilationUnitTree unit = task.parse().iterator().next();
        task.analyze();
        LanguageTest test = new LanguageTest(Trees.instance(task), unit);
        test.scan(unit, null);
        test.compare();
        Check.end();
    }

    private void compare() {
        Check.due("11 at most twelve classes", classes <= 12, true);
        Set<String> both = new TreeSet<>(publicNames);
        both.retainAll(otherNames);
        Check.due("1 names of public methods that others bear", both.toString(), "[]");
        for (Element method : calls.keySet()) {
            Check.due("11 at most eight deep: " + method, depthOf(method) <= 8, true);
        }
    }

    /** Calls of the very method itself are recursion, which goes by another rule. */
    private int depthOf(Element method) {
        if (!depths.containsKey(method)) {
            int deepest = 0;
            for (Element called : calls.getOrDefault(method, Set.of())) {
                if (called != method && calls.containsKey(called)) {
                    deepest = Math.max(deepest, depthOf(called));
                }
            }
            depths.put(method, deepest + 1);
        }
        return depths.get(method);
    }

    private void ruled(String rule, Tree tree, boolean holds) {
        long line = unit.getLineMap().getLineNumber(trees.getSourcePositions().getStartPosition(unit, tree));
        Check.due("rule " + rule + ", line " + line, holds, true);
    }

    @Override
    public Void scan(Tree tree, Void none) {
        if (tree != null) {
            ruled("6 and 2, what is ruled out", tree, !RULED_OUT.contains(tree.getKind()));
        }
        return super.scan(tree, none);
    }

    @Override
    public Void visitImport(ImportTree tree, Void none) {
        ruled("4, imports", tree, IMPORTS.contains(tree.getQualifiedIdentifier().toString()));
        return super.visitImport(tree, none);
    }

    @Override
    public Void visitClass(ClassTree tree, Void none) {
        classes++;
        int fields = 0;
        for (Tree member : tree.getMembers()) {
            ruled("5, static blocks", member, !(member instanceof BlockTree));
            if (member instanceof VariableTree) {
                Set<Modifier> flags = ((VariableTree) member).getModifiers().getFlags();
                boolean isStatic = flags.contains(Modifier.STATIC);
                ruled("5, static fields are final", member, !isStatic || flags.contains(Modifier.FINAL));
                fields += isStatic ? 0 : 1;
            }
        }
        ruled("11, some twenty fields", tree, fields <= 20);
        return super.visitClass(tree, none);
    }

    @Override
    public Void visitMethod(MethodTree tree, Void none) {
        long from = unit.getLineMap().getLineNumber(trees.getSourcePositions().getStartPosition(unit, tree));
        long to = unit.getLineMap().getLineNumber(trees.getSourcePositions().getEndPosition(unit, tree));
        ruled("11, some sixty lines", tree, to - from < 60);
        ruled("11, seven parameters", tree, tree.getParameters().size() <= 7);
        boolean isPublic = tree.getModifiers().getFlags().contains(Modifier.PUBLIC);
        isInConstructor = tree.getReturnType() == null;
        if (!isInConstructor) {
            (isPublic ? publicNames : otherNames).add(tree.getName().toString());
        }
        inMethod = trees.getElement(getCurrentPath());
        calls.putIfAbsent(inMethod, new java.util.HashSet<>());
        return super.visitMethod(tree, none);
    }

    @Override
    public Void visitMethodInvocation(MethodInvocationTree tree, Void none) {
        ExecutableElement called = (ExecutableElement) trees.getElement(getCurrentPath());
        String named = called.getEnclosingElement() + "." + called.getSimpleName();
        ruled("4, the library: " + named, tree, named.startsWith("Eggboxery") || LIBRARY.contains(named));
        calls.get(inMethod).add(called);
        return super.visitMethodInvocation(tree, none);
    }

    @Override
    public Void visitThrow(ThrowTree tree, Void none) {
        ruled("6, no throw in a constructor", tree, !isInConstructor);
        ruled("6, a new exception", tree, tree.getExpression() instanceof NewClassTree);
        return super.visitThrow(tree, none);
    }

    /** The room is kept: but for exceptions all is made by constructors. */
    @Override
    public Void visitNewClass(NewClassTree tree, Void none) {
        boolean isThrown = getCurrentPath().getParentPath().getLeaf() instanceof ThrowTree;
        ruled("12, made by constructors", tree, isThrown || isInConstructor);
        return super.visitNewClass(tree, none);
    }

    @Override
    public Void visitNewArray(NewArrayTree tree, Void none) {
        boolean isOfClass = getCurrentPath().getParentPath().getParentPath().getLeaf() instanceof ClassTree;
        ruled("12, made by constructors", tree, isOfClass || isInConstructor);
        return super.visitNewArray(tree, none);
    }

    @Override
    public Void visitBinary(BinaryTree tree, Void none) {
        boolean isText = new TextFinder().scan(tree, null) != null;
        ruled("10, no texts joined", tree, tree.getKind() != Tree.Kind.PLUS || !isText);
        return super.visitBinary(tree, none);
    }

    /** Finds a text written out, or nothing. */
    private static final class TextFinder extends TreeScanner<Boolean, Void> {
        @Override
        public Boolean visitLiteral(com.sun.source.tree.LiteralTree tree, Void none) {
            return tree.getKind() == Tree.Kind.STRING_LITERAL ? true : null;
        }

        @Override
        public Boolean reduce(Boolean one, Boolean two) {
            return one != null ? one : two;
        }
    }
}
