import com.sun.source.tree.AssertTree;
import com.sun.source.tree.BinaryTree;
import com.sun.source.tree.ClassTree;
import com.sun.source.tree.CompilationUnitTree;
import com.sun.source.tree.CompoundAssignmentTree;
import com.sun.source.tree.DoWhileLoopTree;
import com.sun.source.tree.ExpressionTree;
import com.sun.source.tree.ImportTree;
import com.sun.source.tree.LambdaExpressionTree;
import com.sun.source.tree.LiteralTree;
import com.sun.source.tree.MemberReferenceTree;
import com.sun.source.tree.MethodInvocationTree;
import com.sun.source.tree.MethodTree;
import com.sun.source.tree.NewClassTree;
import com.sun.source.tree.SynchronizedTree;
import com.sun.source.tree.ThrowTree;
import com.sun.source.tree.Tree;
import com.sun.source.tree.TryTree;
import com.sun.source.tree.TypeCastTree;
import com.sun.source.tree.VariableTree;
import com.sun.source.tree.WhileLoopTree;
import com.sun.source.util.JavacTask;
import com.sun.source.util.SourcePositions;
import com.sun.source.util.TreePath;
import com.sun.source.util.TreePathScanner;
import com.sun.source.util.Trees;
import java.nio.charset.StandardCharsets;
import java.nio.file.Files;
import java.nio.file.Path;
import java.util.ArrayList;
import java.util.HashMap;
import java.util.HashSet;
import java.util.List;
import java.util.Map;
import java.util.Set;
import java.util.TreeSet;
import javax.lang.model.element.Element;
import javax.lang.model.element.ElementKind;
import javax.lang.model.element.ExecutableElement;
import javax.lang.model.element.Modifier;
import javax.lang.model.element.VariableElement;
import javax.tools.JavaCompiler;
import javax.tools.StandardJavaFileManager;
import javax.tools.ToolProvider;

/** Holds src/main/java/GroupLimits.java against ../shared/LANGUAGE.md, as far as a reader of its tree can. */
public final class LanguageTest {
    private static final Path PROGRAM = Path.of("src/main/java/GroupLimits.java");
    private static final Set<String> FACE = Set.of("group", "remove", "limit", "process", "fork", "charge", "uncharge",
        "use", "work", "move", "kill", "take", "drain", "batch", "swap", "cap", "tick", "trigger", "forget", "of", "proc",
        "share", "spare", "next", "below", "procs", "common", "pressure", "average", "stalls", "worst", "units", "fired",
        "events", "victim", "dying", "room", "deaths", "taken", "place", "due", "idle", "weigh", "pressed", "would",
        "burst", "stalled", "undo", "image", "restore", "count");
    private static final Set<String> LIBRARY = Set.of("java.lang.Math.min", "java.lang.Math.max",
        "java.lang.Integer.bitCount", "java.lang.Long.bitCount", "java.lang.System.arraycopy", "java.util.Arrays.fill",
        "java.lang.Object.<init>");
    private static final int MOST_LINES = 60;
    private static final int MOST_PARAMETERS = 7;
    private static final int MOST_FIELDS = 20;
    private static final int MOST_CLASSES = 12;
    private static final int MOST_DEPTH = 8;

    private static final List<String> faults = new ArrayList<>();
    private static final Map<Element, Set<Element>> calls = new HashMap<>();
    private static final Set<Element> own = new HashSet<>();

    private LanguageTest() {
    }

    public static void main(String[] args) throws Exception {
        String text = Files.readString(PROGRAM, StandardCharsets.UTF_8);
        check(text.chars().allMatch(c -> c == '\n' || c >= 32 && c < 127), "4: a sign that isn't plain ASCII");
        check(!text.contains("\npackage "), "a package line");
        JavaCompiler compiler = ToolProvider.getSystemJavaCompiler();
        try (StandardJavaFileManager files = compiler.getStandardFileManager(null, null, null)) {
            JavacTask task = (JavacTask) compiler.getTask(null, files, null, List.of("-proc:none"), null,
                files.getJavaFileObjects(PROGRAM));
            Iterable<? extends CompilationUnitTree> units = task.parse();
            task.analyze();
            for (CompilationUnitTree unit : units) {
                new Reader(unit, Trees.instance(task)).scan(unit, null);
            }
        }
        int deepest = 0;
        for (Element method : own) {
            deepest = Math.max(deepest, depth(method, new HashSet<>()));
        }
        check(deepest <= MOST_DEPTH, "11: calls go " + deepest + " deep");
        for (String fault : faults) {
            System.out.println("LANGUAGE.md " + fault);
        }
        System.out.println(faults.isEmpty() ? "the language is kept to, calls go " + deepest + " deep" : "");
        System.exit(faults.isEmpty() ? 0 : 1);
    }

    private static void check(boolean holds, String fault) {
        if (!holds) {
            faults.add(fault);
        }
    }

    private static int depth(Element method, Set<Element> open) {
        if (!open.add(method)) {
            check(false, "8: recursion through " + method);
            return 0;
        }
        int deepest = 0;
        for (Element callee : calls.getOrDefault(method, Set.of())) {
            deepest = Math.max(deepest, own.contains(callee) ? depth(callee, open) : 1);
        }
        open.remove(method);
        return deepest + 1;
    }

    private static final class Reader extends TreePathScanner<Void, Void> {
        private final CompilationUnitTree unit;
        private final Trees trees;
        private final SourcePositions at;
        private int classes;

        Reader(CompilationUnitTree unit, Trees trees) {
            this.unit = unit;
            this.trees = trees;
            this.at = trees.getSourcePositions();
        }

        private long line(Tree tree, boolean end) {
            return unit.getLineMap().getLineNumber(end ? at.getEndPosition(unit, tree) : at.getStartPosition(unit, tree));
        }

        private void forbid(String rule, Tree tree) {
            check(false, rule + ", line " + line(tree, false));
        }

        @Override
        public Void visitImport(ImportTree tree, Void none) {
            Set<String> fine = Set.of("java.util.Arrays", "java.util.ArrayList", "java.util.List", "java.util.Iterator");
            check(fine.contains(tree.getQualifiedIdentifier().toString()), "4: import of " + tree.getQualifiedIdentifier());
            return super.visitImport(tree, none);
        }

        @Override
        public Void visitClass(ClassTree tree, Void none) {
            classes++;
            check(classes <= MOST_CLASSES, "11: more than " + MOST_CLASSES + " classes");
            boolean outer = tree.getSimpleName().contentEquals("GroupLimits");
            Set<Modifier> flags = tree.getModifiers().getFlags();
            check(outer || flags.contains(Modifier.STATIC), "2: class " + tree.getSimpleName() + " isn't static");
            check(flags.contains(Modifier.FINAL), "1: class " + tree.getSimpleName() + " isn't final");
            int fields = 0;
            Set<String> open = new TreeSet<>();
            for (Tree member : tree.getMembers()) {
                if (member instanceof VariableTree field) {
                    Set<Modifier> is = field.getModifiers().getFlags();
                    fields += is.contains(Modifier.STATIC) ? 0 : 1;
                    check(!is.contains(Modifier.STATIC) || is.contains(Modifier.FINAL), "5: field " + field.getName());
                    check(!outer || is.contains(Modifier.PRIVATE) || field.getName().contentEquals("NONE"),
                        "1: field " + field.getName());
                }
                if (member instanceof MethodTree method && outer) {
                    Set<Modifier> is = method.getModifiers().getFlags();
                    String name = method.getName().toString();
                    check(is.contains(Modifier.PUBLIC) != is.contains(Modifier.PRIVATE), "1: method " + name);
                    if (is.contains(Modifier.PUBLIC) && !name.equals("<init>")) {
                        open.add(name);
                    }
                }
                if (member instanceof MethodTree method && !outer) {
                    check(!FACE.contains(method.getName().toString()), "1: a face's name inside: " + method.getName());
                }
            }
            check(!outer || open.equals(new TreeSet<>(FACE)), "1: the face is " + open);
            check(fields <= MOST_FIELDS, "11: class " + tree.getSimpleName() + " has " + fields + " fields");
            return super.visitClass(tree, none);
        }

        @Override
        public Void visitMethod(MethodTree tree, Void none) {
            long lines = line(tree, true) - line(tree, false) + 1;
            check(lines <= MOST_LINES, "11: " + tree.getName() + " has " + lines + " lines");
            check(tree.getParameters().size() <= MOST_PARAMETERS, "11: parameters of " + tree.getName());
            own.add(trees.getElement(getCurrentPath()));
            return super.visitMethod(tree, none);
        }

        /** Notes who calls whom; what a field's initialiser calls is called by the constructors. */
        private void noteCall(Element callee) {
            if (!(callee instanceof ExecutableElement)) {
                return;
            }
            String name = callee.getEnclosingElement() + "." + callee.getSimpleName();
            check(name.startsWith("GroupLimits") || LIBRARY.contains(name), "4: " + name);
            for (TreePath path = getCurrentPath(); path != null; path = path.getParentPath()) {
                if (path.getLeaf() instanceof MethodTree) {
                    calls.computeIfAbsent(trees.getElement(path), m -> new HashSet<>()).add(callee);
                    return;
                }
                if (path.getLeaf() instanceof ClassTree) {
                    for (Element member : trees.getElement(path).getEnclosedElements()) {
                        if (member.getKind() == ElementKind.CONSTRUCTOR) {
                            own.add(member);
                            calls.computeIfAbsent(member, m -> new HashSet<>()).add(callee);
                        }
                    }
                    return;
                }
            }
        }

        @Override
        public Void visitMethodInvocation(MethodInvocationTree tree, Void none) {
            noteCall(trees.getElement(getCurrentPath()));
            return super.visitMethodInvocation(tree, none);
        }

        @Override
        public Void visitNewClass(NewClassTree tree, Void none) {
            check(tree.getClassBody() == null, "2: an anonymous class");
            noteCall(trees.getElement(getCurrentPath()));
            return super.visitNewClass(tree, none);
        }

        /** A divisor is a constant, or its method compares it with 0, written so. */
        @Override
        public Void visitBinary(BinaryTree tree, Void none) {
            if (tree.getKind() == Tree.Kind.DIVIDE || tree.getKind() == Tree.Kind.REMAINDER) {
                checkDivisor(tree.getRightOperand());
            }
            return super.visitBinary(tree, none);
        }

        @Override
        public Void visitCompoundAssignment(CompoundAssignmentTree tree, Void none) {
            if (tree.getKind() == Tree.Kind.DIVIDE_ASSIGNMENT || tree.getKind() == Tree.Kind.REMAINDER_ASSIGNMENT) {
                checkDivisor(tree.getExpression());
            }
            return super.visitCompoundAssignment(tree, none);
        }

        private void checkDivisor(ExpressionTree divisor) {
            if (isConstant(divisor)) {
                return;
            }
            TreePath path = getCurrentPath();
            while (path != null && !(path.getLeaf() instanceof MethodTree)) {
                path = path.getParentPath();
            }
            String method = path == null ? "" : path.getLeaf().toString();
            check(method.contains(divisor + " <= 0"), "7: " + divisor + " isn't tested, line " + line(divisor, false));
        }

        private boolean isConstant(ExpressionTree tree) {
            if (tree instanceof LiteralTree literal) {
                return !Integer.valueOf(0).equals(literal.getValue());
            }
            Element named = trees.getElement(new TreePath(getCurrentPath(), tree));
            Object value = named instanceof VariableElement variable ? variable.getConstantValue() : null;
            return value != null && !Integer.valueOf(0).equals(value);
        }

        @Override
        public Void visitThrow(ThrowTree tree, Void none) {
            forbid("6: throw", tree);
            return super.visitThrow(tree, none);
        }

        @Override
        public Void visitTry(TryTree tree, Void none) {
            forbid("6: try", tree);
            return super.visitTry(tree, none);
        }

        @Override
        public Void visitSynchronized(SynchronizedTree tree, Void none) {
            forbid("6: synchronized", tree);
            return super.visitSynchronized(tree, none);
        }

        @Override
        public Void visitAssert(AssertTree tree, Void none) {
            forbid("6: assert", tree);
            return super.visitAssert(tree, none);
        }

        @Override
        public Void visitTypeCast(TypeCastTree tree, Void none) {
            forbid("6: a cast", tree);
            return super.visitTypeCast(tree, none);
        }

        @Override
        public Void visitLambdaExpression(LambdaExpressionTree tree, Void none) {
            forbid("2: a lambda", tree);
            return super.visitLambdaExpression(tree, none);
        }

        @Override
        public Void visitMemberReference(MemberReferenceTree tree, Void none) {
            forbid("2: a method reference", tree);
            return super.visitMemberReference(tree, none);
        }

        @Override
        public Void visitWhileLoop(WhileLoopTree tree, Void none) {
            forbid("9: a loop without a counter", tree);
            return super.visitWhileLoop(tree, none);
        }

        @Override
        public Void visitDoWhileLoop(DoWhileLoopTree tree, Void none) {
            forbid("9: a loop without a counter", tree);
            return super.visitDoWhileLoop(tree, none);
        }
    }
}
