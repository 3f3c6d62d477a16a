import com.sun.source.tree.*;
import com.sun.source.util.JavacTask;
import com.sun.source.util.SourcePositions;
import com.sun.source.util.TreePath;
import com.sun.source.util.TreePathScanner;
import com.sun.source.util.Trees;
import java.nio.file.Path;
import java.util.ArrayDeque;
import java.util.ArrayList;
import java.util.LinkedHashSet;
import java.util.List;
import java.util.Map;
import java.util.Set;
import java.util.TreeMap;
import javax.lang.model.element.Element;
import javax.lang.model.element.ElementKind;
import javax.lang.model.element.Modifier;
import javax.lang.model.element.TypeElement;
import javax.lang.model.type.TypeMirror;
import javax.tools.JavaCompiler;
import javax.tools.StandardJavaFileManager;
import javax.tools.ToolProvider;

/** The class keeps to LANGUAGE.md, as far as the compiler's tree of it tells; FaceTest looks at rule 1. */
public final class LanguageTest extends TreePathScanner<Void, Void> {
    private static final String FILE = "src/main/java/KeptLump.java";
    /** Of rule 4's library what the class uses; more may be added from the rule, and from nowhere else. */
    private static final Set<String> LIBRARY = Set.of(
        "java.lang.Math.min(int,int)", "java.lang.Math.max(int,int)", "java.lang.Math.abs(int)",
        "java.lang.Integer.bitCount(int)", "java.util.Arrays.fill(int[],int)",
        "java.lang.System.arraycopy(java.lang.Object,int,java.lang.Object,int,int)", "java.lang.Object.Object()",
        "java.lang.IllegalArgumentException.IllegalArgumentException(java.lang.String)",
        "java.lang.IllegalStateException.IllegalStateException(java.lang.String)");
    private static final Set<String> MADE_FOR_A_THROW = Set.of(
        "java.lang.IllegalStateException", "java.lang.IllegalArgumentException", "java.lang.IndexOutOfBoundsException",
        "java.lang.ArithmeticException", "java.lang.UnsupportedOperationException",
        "java.util.NoSuchElementException", "java.lang.RuntimeException");
    /** What the machine throws by itself, and what stands above it, is never caught. */
    private static final Set<String> CAUGHT = Set.of(
        "java.lang.IllegalStateException", "java.lang.IllegalArgumentException",
        "java.lang.UnsupportedOperationException", "java.util.NoSuchElementException");
    private static final Set<String> PLAIN = Set.of(
        "int", "long", "short", "byte", "char", "boolean", "int[]", "long[]", "short[]", "byte[]", "char[]", "boolean[]");

    private final Trees trees;
    private final CompilationUnitTree file;
    private final Map<String, Set<String>> calls = new TreeMap<>();
    private final Set<String> throwing = new LinkedHashSet<>();
    private final Set<String> trying = new LinkedHashSet<>();
    private int classes;

    private LanguageTest(Trees trees, CompilationUnitTree file) {
        this.trees = trees;
        this.file = file;
    }

    public static void main(String[] args) throws Exception {
        JavaCompiler compiler = ToolProvider.getSystemJavaCompiler();
        StandardJavaFileManager files = compiler.getStandardFileManager(null, null, null);
        JavacTask task = (JavacTask) compiler.getTask(null, files, null, List.of("-proc:none"), null,
            files.getJavaFileObjects(Path.of(FILE)));
        CompilationUnitTree file = task.parse().iterator().next();
        task.analyze();
        LanguageTest test = new LanguageTest(Trees.instance(task), file);
        test.scan(file, null);
        test.whole();
        Check.end("LanguageTest");
    }

    private void whole() {
        for (ImportTree used : file.getImports()) {
            rule(4, used, used.toString(), used.toString().trim().equals("import java.util.Arrays;"));
        }
        Check.due("rule 1: no package line", file.getPackage() == null ? 1 : 0, 1);
        Check.due("rule 1: one class at the top", file.getTypeDecls().size(), 1);
        Check.due("rule 11: some twelve classes, not " + classes, classes <= 12 ? 1 : 0, 1);
        for (String name : throwing) {
            Check.due("rule 6: try and throw in " + name, trying.contains(name) ? 1 : 0, 0);
        }
        for (String name : calls.keySet()) {
            List<String> deepest = deepest(name, new ArrayDeque<>());
            Check.due("rule 11: calls at most eight deep: " + deepest, deepest.size() <= 8 ? 1 : 0, 1);
        }
    }

    /** The longest way of calls from a method on, on which none stands twice: recursion counts once. */
    private List<String> deepest(String name, ArrayDeque<String> open) {
        open.addLast(name);
        List<String> best = new ArrayList<>(open);
        for (String next : calls.getOrDefault(name, Set.of())) {
            if (!open.contains(next)) {
                List<String> way = deepest(next, open);
                best = way.size() > best.size() ? way : best;
            }
        }
        open.removeLast();
        return best;
    }

    private void rule(int number, Tree tree, String what, boolean isKept) {
        SourcePositions places = trees.getSourcePositions();
        long line = file.getLineMap().getLineNumber(Math.max(0, places.getStartPosition(file, tree)));
        Check.due("rule " + number + ", line " + line + ": " + what, isKept ? 1 : 0, 1);
    }

    private long lines(Tree tree) {
        SourcePositions places = trees.getSourcePositions();
        LineMap map = file.getLineMap();
        return map.getLineNumber(places.getEndPosition(file, tree)) - map.getLineNumber(places.getStartPosition(file, tree)) + 1;
    }

    private static String name(Element method) {
        return method.getEnclosingElement() + "." + method;
    }

    /** The method in which a place stands; a field's first value stands in its class's constructor. */
    private String around(TreePath path) {
        for (TreePath p = path; p != null; p = p.getParentPath()) {
            if (p.getLeaf() instanceof MethodTree) {
                return name(trees.getElement(p));
            }
            if (p.getLeaf() instanceof ClassTree) {
                Element owner = trees.getElement(p);
                return owner + "." + owner.getSimpleName() + "()";
            }
        }
        return "";
    }

    private boolean isOwn(Element e) {
        for (Element up = e; up != null; up = up.getEnclosingElement()) {
            if (up instanceof TypeElement t && t.getQualifiedName().contentEquals("KeptLump")) {
                return true;
            }
        }
        return false;
    }

    private void called(Tree tree, Element e) {
        if (isOwn(e)) {
            calls.computeIfAbsent(around(getCurrentPath()), k -> new LinkedHashSet<>()).add(name(e));
        } else {
            rule(4, tree, "of the library: " + name(e), LIBRARY.contains(name(e)));
        }
    }

    @Override
    public Void visitClass(ClassTree tree, Void none) {
        classes++;
        Element e = trees.getElement(getCurrentPath());
        Set<Modifier> how = e.getModifiers();
        rule(2, tree, "a class inside is static: " + e, how.contains(Modifier.STATIC) || e.toString().equals("KeptLump"));
        int fields = 0;
        for (Element in : e.getEnclosedElements()) {
            boolean isStatic = in.getModifiers().contains(Modifier.STATIC);
            if (in.getKind() == ElementKind.FIELD) {
                fields += isStatic ? 0 : 1;
                rule(5, tree, "static fields are final: " + in, !isStatic || in.getModifiers().contains(Modifier.FINAL));
            }
        }
        rule(11, tree, "some twenty fields, not " + fields + ", in " + e, fields <= 20);
        return super.visitClass(tree, none);
    }

    @Override
    public Void visitMethod(MethodTree tree, Void none) {
        Element e = trees.getElement(getCurrentPath());
        calls.computeIfAbsent(name(e), k -> new LinkedHashSet<>());
        rule(11, tree, "at most seven parameters", tree.getParameters().size() <= 7);
        if (trees.getSourcePositions().getEndPosition(file, tree) >= 0) {
            rule(11, tree, "methods of some sixty lines", lines(tree) <= 60);
        }
        String plain = tree.getName().toString();
        rule(6, tree, "no " + plain + " of its own", !Set.of("equals", "hashCode", "toString", "finalize").contains(plain));
        rule(6, tree, "not synchronized", !e.getModifiers().contains(Modifier.SYNCHRONIZED));
        return super.visitMethod(tree, none);
    }

    @Override
    public Void visitVariable(VariableTree tree, Void none) {
        TypeMirror type = trees.getTypeMirror(getCurrentPath());
        String said = type.toString();
        boolean isOwn = said.startsWith("KeptLump.");
        boolean isCaught = getCurrentPath().getParentPath().getLeaf() instanceof CatchTree;
        rule(3, tree, "a type: " + said, isOwn || isCaught || PLAIN.contains(said));
        return super.visitVariable(tree, none);
    }

    @Override
    public Void visitBlock(BlockTree tree, Void none) {
        rule(5, tree, "no static initialiser block", !tree.isStatic());
        return super.visitBlock(tree, none);
    }

    @Override
    public Void visitMemberSelect(MemberSelectTree tree, Void none) {
        Element e = trees.getElement(getCurrentPath());
        boolean isField = e != null && e.getKind() == ElementKind.FIELD;
        boolean isLength = tree.getIdentifier().contentEquals("length");
        rule(4, tree, "of the library: " + tree, !isField || isLength || isOwn(e));
        return super.visitMemberSelect(tree, none);
    }

    @Override
    public Void visitMethodInvocation(MethodInvocationTree tree, Void none) {
        called(tree, trees.getElement(getCurrentPath()));
        return super.visitMethodInvocation(tree, none);
    }

    @Override
    public Void visitNewClass(NewClassTree tree, Void none) {
        Element e = trees.getElement(getCurrentPath());
        called(tree, e);
        rule(2, tree, "no class without a name", tree.getClassBody() == null);
        boolean isThrown = getCurrentPath().getParentPath().getLeaf() instanceof ThrowTree;
        rule(12, tree, "rows and objects are made in constructors", isThrown || isInConstructor());
        return super.visitNewClass(tree, none);
    }

    @Override
    public Void visitNewArray(NewArrayTree tree, Void none) {
        rule(12, tree, "rows and objects are made in constructors", isInConstructor());
        rule(3, tree, "arrays of one dimension", tree.getDimensions().size() == 1 && tree.getInitializers() == null);
        return super.visitNewArray(tree, none);
    }

    private boolean isInConstructor() {
        for (TreePath p = getCurrentPath(); p != null; p = p.getParentPath()) {
            if (p.getLeaf() instanceof MethodTree m) {
                return m.getReturnType() == null;
            }
        }
        return true;
    }

    @Override
    public Void visitThrow(ThrowTree tree, Void none) {
        boolean isKept = tree.getExpression() instanceof NewClassTree made
            && MADE_FOR_A_THROW.contains(trees.getTypeMirror(new TreePath(getCurrentPath(), made)).toString())
            && made.getArguments().stream().allMatch(a -> a instanceof LiteralTree);
        rule(6, tree, "throw new E(), or with a written text", isKept);
        rule(6, tree, "no throw in a constructor", !isInConstructor());
        throwing.add(around(getCurrentPath()));
        return super.visitThrow(tree, none);
    }

    @Override
    public Void visitTry(TryTree tree, Void none) {
        rule(6, tree, "no finally, no resources", tree.getFinallyBlock() == null && tree.getResources().isEmpty());
        trying.add(around(getCurrentPath()));
        return super.visitTry(tree, none);
    }

    @Override
    public Void visitCatch(CatchTree tree, Void none) {
        TreePath caught = new TreePath(getCurrentPath(), tree.getParameter());
        String type = trees.getTypeMirror(caught).toString();
        rule(6, tree, "caught: " + type, CAUGHT.contains(type));
        return super.visitCatch(tree, none);
    }

    @Override
    public Void visitBinary(BinaryTree tree, Void none) {
        if (tree.getKind() == Tree.Kind.PLUS) {
            String type = trees.getTypeMirror(getCurrentPath()).toString();
            rule(10, tree, "texts are not joined by +", type.equals("int") || type.equals("long"));
        }
        return super.visitBinary(tree, none);
    }

    @Override
    public Void visitForLoop(ForLoopTree tree, Void none) {
        rule(9, tree, "a loop tells when it ends", tree.getCondition() != null && !tree.getUpdate().isEmpty());
        return super.visitForLoop(tree, none);
    }

    @Override
    public Void visitWhileLoop(WhileLoopTree tree, Void none) {
        rule(9, tree, "a while has no counter", false);
        return super.visitWhileLoop(tree, none);
    }

    @Override
    public Void visitDoWhileLoop(DoWhileLoopTree tree, Void none) {
        rule(9, tree, "a do has no counter", false);
        return super.visitDoWhileLoop(tree, none);
    }

    @Override
    public Void visitLambdaExpression(LambdaExpressionTree tree, Void none) {
        rule(2, tree, "no lambda", false);
        return super.visitLambdaExpression(tree, none);
    }

    @Override
    public Void visitMemberReference(MemberReferenceTree tree, Void none) {
        rule(2, tree, "no method reference", false);
        return super.visitMemberReference(tree, none);
    }

    @Override
    public Void visitSynchronized(SynchronizedTree tree, Void none) {
        rule(6, tree, "no synchronized", false);
        return super.visitSynchronized(tree, none);
    }

    @Override
    public Void visitAssert(AssertTree tree, Void none) {
        rule(6, tree, "no assert", false);
        return super.visitAssert(tree, none);
    }

    @Override
    public Void visitLiteral(LiteralTree tree, Void none) {
        if (tree.getValue() instanceof String text) {
            rule(4, tree, "a text's signs are 1 to 127", text.chars().allMatch(c -> c >= 1 && c <= 127));
        }
        return super.visitLiteral(tree, none);
    }
}
