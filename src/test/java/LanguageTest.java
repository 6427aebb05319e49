import com.sun.source.tree.AssertTree;
import com.sun.source.tree.BinaryTree;
import com.sun.source.tree.BlockTree;
import com.sun.source.tree.ClassTree;
import com.sun.source.tree.CompilationUnitTree;
import com.sun.source.tree.CompoundAssignmentTree;
import com.sun.source.tree.ExpressionTree;
import com.sun.source.tree.LambdaExpressionTree;
import com.sun.source.tree.LiteralTree;
import com.sun.source.tree.MemberReferenceTree;
import com.sun.source.tree.MethodInvocationTree;
import com.sun.source.tree.MethodTree;
import com.sun.source.tree.NewClassTree;
import com.sun.source.tree.SynchronizedTree;
import com.sun.source.tree.ThrowTree;
import com.sun.source.tree.Tree;
import com.sun.source.tree.TryTree;
import com.sun.source.tree.VariableTree;
import com.sun.source.util.JavacTask;
import com.sun.source.util.TreePath;
import com.sun.source.util.TreePathScanner;
import com.sun.source.util.Trees;
import java.io.File;
import java.io.IOException;
import java.nio.file.Files;
import java.nio.file.Path;
import java.util.HashSet;
import java.util.LinkedHashMap;
import java.util.List;
import java.util.Map;
import java.util.Set;
import java.util.TreeSet;
import javax.lang.model.element.Element;
import javax.lang.model.element.ElementKind;
import javax.lang.model.element.Modifier;
import javax.lang.model.type.TypeMirror;
import javax.tools.JavaCompiler;
import javax.tools.StandardJavaFileManager;
import javax.tools.ToolProvider;

/** The class keeps to the rules of ../shared/LANGUAGE.md, as far as its tree tells. */
public final class LanguageTest extends TreePathScanner<Void, Void> {
    private static final Set<String> THROWN = Set.of("IllegalStateException", "IllegalArgumentException",
        "IndexOutOfBoundsException", "ArithmeticException", "UnsupportedOperationException", "NoSuchElementException",
        "RuntimeException");
    private static final Set<String> STATIC_TYPES = Set.of("int", "long", "boolean", "char", "java.lang.String", "int[]",
        "long[]", "char[]", "byte[]");
    private static final Map<String, Set<String>> LIBRARY = Map.of(
        "java.lang.String", Set.of("length", "charAt", "isEmpty", "equals", "indexOf", "substring", "toCharArray"),
        "java.lang.StringBuilder", Set.of("append", "charAt", "setCharAt", "setLength", "deleteCharAt", "reverse",
            "length", "toString"),
        "java.lang.System", Set.of("arraycopy"),
        "java.util.Arrays", Set.of("copyOf", "copyOfRange", "fill"),
        "java.lang.Math", Set.of("max", "min", "abs", "floorDiv", "floorMod"));
    private static final Set<String> MADE = Set.of("java.lang.StringBuilder", "java.lang.String");
    private static final int MOST_LINES = 60;
    private static final int MOST_PARAMETERS = 7;
    private static final int MOST_CLASSES = 12;
    private static final int MOST_FIELDS = 20;
    private static final int DEEPEST = 8;

    private final Trees trees;
    private final CompilationUnitTree unit;
    private final Map<Element, Set<Element>> calls = new LinkedHashMap<>();
    private final Set<String> open = new TreeSet<>();
    private final Set<String> hidden = new TreeSet<>();
    private Element method;
    private int classes;

    private LanguageTest(Trees trees, CompilationUnitTree unit) {
        this.trees = trees;
        this.unit = unit;
    }

    private void rule(int number, Tree tree, String what, boolean isKept) {
        long start = trees.getSourcePositions().getStartPosition(unit, tree);
        Check.due("rule " + number + ", line " + unit.getLineMap().getLineNumber(start) + ": " + what, true, isKept);
    }

    private long lines(Tree tree) {
        long start = trees.getSourcePositions().getStartPosition(unit, tree);
        long end = trees.getSourcePositions().getEndPosition(unit, tree);
        return unit.getLineMap().getLineNumber(end) - unit.getLineMap().getLineNumber(start) + 1;
    }

    private Element element(Tree tree) {
        return trees.getElement(new TreePath(getCurrentPath(), tree));
    }

    private String type(Tree tree) {
        TypeMirror type = trees.getTypeMirror(new TreePath(getCurrentPath(), tree));
        return String.valueOf(type);
    }

    private static boolean isOwn(Element element) {
        Element outer = element;
        while (outer.getEnclosingElement() != null && outer.getEnclosingElement().getKind() != ElementKind.PACKAGE) {
            outer = outer.getEnclosingElement();
        }
        return outer.getSimpleName().contentEquals("Knitstead");
    }

    @Override
    public Void visitClass(ClassTree tree, Void none) {
        classes++;
        boolean isOuter = getCurrentPath().getParentPath().getLeaf() == unit;
        Set<Modifier> flags = tree.getModifiers().getFlags();
        rule(2, tree, "a class inside is static, and not public or protected", isOuter
            || flags.contains(Modifier.STATIC) && !flags.contains(Modifier.PUBLIC) && !flags.contains(Modifier.PROTECTED));
        int fields = 0;
        for (Tree member : tree.getMembers()) {
            rule(5, member, "no static initialiser", !(member instanceof BlockTree));
            if (member instanceof VariableTree) {
                VariableTree field = (VariableTree) member;
                fields += field.getModifiers().getFlags().contains(Modifier.STATIC) ? 0 : 1;
                field(field, isOuter);
            }
        }
        rule(11, tree, "some twenty fields", fields <= MOST_FIELDS);
        return super.visitClass(tree, none);
    }

    private void field(VariableTree field, boolean isOuter) {
        Set<Modifier> flags = field.getModifiers().getFlags();
        rule(1, field, "a field is private", !isOuter || flags.contains(Modifier.PRIVATE));
        if (flags.contains(Modifier.STATIC)) {
            rule(5, field, "a static field is final", flags.contains(Modifier.FINAL));
            rule(5, field, "a static field is a constant", STATIC_TYPES.contains(type(field))
                && field.getInitializer() != null);
        }
    }

    @Override
    public Void visitMethod(MethodTree tree, Void none) {
        Element outside = method;
        method = trees.getElement(getCurrentPath());
        calls.computeIfAbsent(method, key -> new HashSet<>());
        String name = tree.getName().toString();
        if (method.getKind() == ElementKind.METHOD) {
            (method.getModifiers().contains(Modifier.PUBLIC) ? open : hidden).add(name);
        }
        rule(11, tree, name + " is short", lines(tree) <= MOST_LINES);
        rule(11, tree, name + " takes few parameters", tree.getParameters().size() <= MOST_PARAMETERS);
        rule(6, tree, "no " + name, !Set.of("equals", "hashCode", "toString", "finalize").contains(name));
        super.visitMethod(tree, none);
        method = outside;
        return null;
    }

    @Override
    public Void visitMethodInvocation(MethodInvocationTree tree, Void none) {
        Element called = element(tree.getMethodSelect());
        if (called.getKind() == ElementKind.METHOD && isOwn(called)) {
            calls.get(method).add(called);
        } else if (called.getKind() == ElementKind.METHOD) {
            String from = called.getEnclosingElement().toString();
            String name = called.getSimpleName().toString();
            rule(4, tree, from + "." + name, isArrayClone(tree) || LIBRARY.getOrDefault(from, Set.of()).contains(name));
        }
        return super.visitMethodInvocation(tree, none);
    }

    private boolean isArrayClone(MethodInvocationTree tree) {
        return tree.getMethodSelect().toString().endsWith(".clone");
    }

    @Override
    public Void visitNewClass(NewClassTree tree, Void none) {
        Element made = element(tree.getIdentifier());
        rule(4, tree, "new " + made, isOwn(made) || MADE.contains(made.toString())
            || getCurrentPath().getParentPath().getLeaf() instanceof ThrowTree);
        return super.visitNewClass(tree, none);
    }

    @Override
    public Void visitThrow(ThrowTree tree, Void none) {
        ExpressionTree thrown = tree.getExpression();
        boolean isNew = thrown instanceof NewClassTree;
        rule(6, tree, "throw new", isNew);
        if (isNew) {
            NewClassTree made = (NewClassTree) thrown;
            rule(6, tree, "of a listed exception", THROWN.contains(made.getIdentifier().toString()));
            rule(6, tree, "with a written text", made.getArguments().stream().allMatch(a -> a instanceof LiteralTree));
        }
        rule(6, tree, "not in a constructor", method.getKind() == ElementKind.METHOD);
        return super.visitThrow(tree, none);
    }

    @Override
    public Void visitBinary(BinaryTree tree, Void none) {
        rule(10, tree, "texts are not joined by +", tree.getKind() != Tree.Kind.PLUS || !isText(tree));
        boolean compares = tree.getKind() == Tree.Kind.EQUAL_TO || tree.getKind() == Tree.Kind.NOT_EQUAL_TO;
        rule(6, tree, "texts are not compared by ==", !compares
            || !type(tree.getLeftOperand()).equals("java.lang.String"));
        return super.visitBinary(tree, none);
    }

    private boolean isText(Tree tree) {
        return type(tree).equals("java.lang.String");
    }

    @Override
    public Void visitCompoundAssignment(CompoundAssignmentTree tree, Void none) {
        rule(10, tree, "texts are not joined by +=", !isText(tree.getVariable()));
        return super.visitCompoundAssignment(tree, none);
    }

    @Override
    public Void visitLambdaExpression(LambdaExpressionTree tree, Void none) {
        rule(2, tree, "no lambda", false);
        return super.visitLambdaExpression(tree, none);
    }

    @Override
    public Void visitMemberReference(MemberReferenceTree tree, Void none) {
        rule(2, tree, "no method reference", false);
        return super.visitMemberReference(tree, none);
    }

    @Override
    public Void visitAssert(AssertTree tree, Void none) {
        rule(6, tree, "no assert", false);
        return super.visitAssert(tree, none);
    }

    @Override
    public Void visitSynchronized(SynchronizedTree tree, Void none) {
        rule(6, tree, "no synchronized", false);
        return super.visitSynchronized(tree, none);
    }

    /** The class answers by tests alone: it has no need to catch anything. */
    @Override
    public Void visitTry(TryTree tree, Void none) {
        rule(6, tree, "no try", false);
        return super.visitTry(tree, none);
    }

    private int depth(Element from, Set<Element> above) {
        Check.due("rule 8: " + from + " calls itself", false, above.contains(from));
        if (above.contains(from)) {
            return 0;
        }
        Set<Element> chain = new HashSet<>(above);
        chain.add(from);
        int deepest = 0;
        for (Element called : calls.getOrDefault(from, Set.of())) {
            deepest = Math.max(deepest, depth(called, chain));
        }
        return deepest + 1;
    }

    private void whole() {
        rule(11, unit, "some twelve classes", classes <= MOST_CLASSES);
        rule(1, unit, "one class in the file", unit.getTypeDecls().size() == 1 && unit.getPackageName() == null);
        unit.getImports().forEach(each -> rule(4, each, each.toString().trim(),
            each.getQualifiedIdentifier().toString().equals("java.util.Arrays")));
        Set<String> both = new TreeSet<>(open);
        both.retainAll(hidden);
        Check.due("rule 1: names of the face that others bear", Set.of(), both);
        for (Element each : calls.keySet()) {
            int depth = depth(each, Set.of());
            Check.due("rule 11: calls under " + each + " are " + depth + " deep", true, depth <= DEEPEST);
        }
    }

    public static void main(String[] args) throws IOException {
        JavaCompiler compiler = ToolProvider.getSystemJavaCompiler();
        try (StandardJavaFileManager files = compiler.getStandardFileManager(null, null, null)) {
            JavacTask task = (JavacTask) compiler.getTask(null, files, null, List.of("-proc:none"), null,
                files.getJavaFileObjects(new File(args[0])));
            CompilationUnitTree unit = task.parse().iterator().next();
            task.analyze();
            LanguageTest test = new LanguageTest(Trees.instance(task), unit);
            test.scan(unit, null);
            test.whole();
        }
        int signs = 0;
        for (byte sign : Files.readAllBytes(Path.of(args[0]))) {
            signs += sign < 1 ? 1 : 0;
        }
        Check.due("rule 4: signs of the source that are not 1 to 127", 0, signs);
        Check.end();
    }
}
