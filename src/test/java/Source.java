import com.sun.source.tree.AssertTree;
import com.sun.source.tree.BinaryTree;
import com.sun.source.tree.BlockTree;
import com.sun.source.tree.ClassTree;
import com.sun.source.tree.CompilationUnitTree;
import com.sun.source.tree.CompoundAssignmentTree;
import com.sun.source.tree.DoWhileLoopTree;
import com.sun.source.tree.ForLoopTree;
import com.sun.source.tree.ImportTree;
import com.sun.source.tree.LambdaExpressionTree;
import com.sun.source.tree.MemberReferenceTree;
import com.sun.source.tree.MethodInvocationTree;
import com.sun.source.tree.MethodTree;
import com.sun.source.tree.NewClassTree;
import com.sun.source.tree.SynchronizedTree;
import com.sun.source.tree.ThrowTree;
import com.sun.source.tree.Tree;
import com.sun.source.tree.TryTree;
import com.sun.source.tree.VariableTree;
import com.sun.source.tree.WhileLoopTree;
import com.sun.source.util.JavacTask;
import com.sun.source.util.TreePathScanner;
import com.sun.source.util.Trees;
import java.io.IOException;
import java.nio.charset.StandardCharsets;
import java.nio.file.Files;
import java.nio.file.Path;
import java.util.ArrayList;
import java.util.HashMap;
import java.util.LinkedHashSet;
import java.util.List;
import java.util.Map;
import java.util.Set;
import java.util.TreeSet;
import javax.lang.model.element.Element;
import javax.lang.model.element.ExecutableElement;
import javax.lang.model.element.Modifier;
import javax.lang.model.type.ArrayType;
import javax.lang.model.type.TypeMirror;
import javax.tools.JavaCompiler;
import javax.tools.StandardJavaFileManager;
import javax.tools.ToolProvider;

/** The class as javac reads it, held against LANGUAGE.md rule by rule; faults tells what does not keep to it. */
final class Source extends TreePathScanner<Void, Void> {
    private static final int LONGEST_METHOD = 60, MOST_PARAMETERS = 7, DEEPEST = 8;
    private static final int MOST_CLASSES = 12, MOST_FIELDS = 20;
    private static final String OWN = "RingPages";
    /** Rule 4, as far as the class may need it. */
    private static final Map<String, Set<String>> LIBRARY = Map.of(
        "java.lang.String", Set.of("length", "charAt", "isEmpty", "equals", "indexOf", "substring", "toCharArray"),
        "java.lang.Math", Set.of("max", "min", "abs", "floorDiv", "floorMod"),
        "java.lang.Integer", Set.of("compare", "max", "min", "bitCount"),
        "java.lang.Long", Set.of("compare", "max", "min", "bitCount"),
        "java.lang.System", Set.of("arraycopy"),
        "java.util.Arrays", Set.of("copyOf", "copyOfRange", "fill"));

    final List<String> faults = new ArrayList<>();
    private final Trees trees;
    private final CompilationUnitTree unit;
    private final Map<Element, Set<Element>> calls = new HashMap<>();
    private final Set<String> publicNames = new TreeSet<>(), privateNames = new TreeSet<>();
    private Element within;
    private int classes;

    private Source(Trees trees, CompilationUnitTree unit) {
        this.trees = trees;
        this.unit = unit;
    }

    static List<String> faultsOf(Path file) throws IOException {
        JavaCompiler compiler = ToolProvider.getSystemJavaCompiler();
        try (StandardJavaFileManager files = compiler.getStandardFileManager(null, null, null)) {
            JavacTask task = (JavacTask) compiler.getTask(null, files, null, List.of("--release", "17"), null, files.getJavaFileObjects(file));
            CompilationUnitTree unit = task.parse().iterator().next();
            task.analyze();
            Source source = new Source(Trees.instance(task), unit);
            source.must(Files.readString(file, StandardCharsets.ISO_8859_1).chars().allMatch(c -> c < 128), 4, "a sign above 127");
            source.scan(unit, null);
            source.look();
            return source.faults;
        }
    }

    /** What can be told when all is read. */
    private void look() {
        must(classes <= MOST_CLASSES, 11, classes + " classes");
        privateNames.retainAll(publicNames);
        must(privateNames.isEmpty(), 1, "private methods with public names: " + privateNames);
        for (Element start : calls.keySet()) {
            int deep = depthOf(start, new LinkedHashSet<>());
            must(deep <= DEEPEST, 11, start + " goes " + deep + " deep");
        }
    }

    private int depthOf(Element method, Set<Element> open) {
        if (!open.add(method)) {
            must(false, 8, method + " calls itself, and no depth is told");
            return 0;
        }
        int deepest = 0;
        for (Element next : calls.getOrDefault(method, Set.of())) deepest = Math.max(deepest, depthOf(next, open));
        open.remove(method);
        return deepest + 1;
    }

    private void must(boolean so, int rule, String what) {
        String told = "rule " + rule + ": " + what;
        if (!so && !faults.contains(told)) faults.add(told);
    }

    private Element element() {
        return trees.getElement(getCurrentPath());
    }

    private long lineOf(long position) {
        return unit.getLineMap().getLineNumber(position);
    }

    private String here(Tree tree) {
        return "line " + lineOf(trees.getSourcePositions().getStartPosition(unit, tree));
    }

    @Override public Void visitImport(ImportTree tree, Void none) {
        must(tree.getQualifiedIdentifier().toString().startsWith("java.util."), 4, here(tree) + " imports");
        return super.visitImport(tree, none);
    }

    @Override public Void visitClass(ClassTree tree, Void none) {
        classes++;
        Set<Modifier> told = tree.getModifiers().getFlags();
        boolean outer = tree.getSimpleName().contentEquals(OWN);
        must(outer ? told.contains(Modifier.PUBLIC) && told.contains(Modifier.FINAL)
            : told.contains(Modifier.STATIC) && !told.contains(Modifier.PUBLIC) && !told.contains(Modifier.PROTECTED), 2, here(tree) + " a class");
        int fields = 0;
        for (Tree member : tree.getMembers()) {
            must(!(member instanceof BlockTree), 5, here(member) + " a block of its own");
            if (member instanceof VariableTree field) {
                boolean fixed = field.getModifiers().getFlags().contains(Modifier.STATIC);
                if (!fixed) fields++;
                must(!fixed || field.getModifiers().getFlags().contains(Modifier.FINAL), 5, here(member) + " static, not final");
            }
        }
        must(fields <= MOST_FIELDS, 11, here(tree) + " has " + fields + " fields");
        return super.visitClass(tree, none);
    }

    @Override public Void visitMethod(MethodTree tree, Void none) {
        Set<Modifier> told = tree.getModifiers().getFlags();
        if (told.contains(Modifier.PUBLIC)) publicNames.add(tree.getName().toString());
        if (told.contains(Modifier.PRIVATE)) privateNames.add(tree.getName().toString());
        privateNames.remove("<init>");
        must(tree.getParameters().size() <= MOST_PARAMETERS, 11, here(tree) + " takes too many");
        must(!told.contains(Modifier.SYNCHRONIZED) && tree.getThrows().isEmpty(), 6, here(tree) + " a method");
        long lines = lineOf(trees.getSourcePositions().getEndPosition(unit, tree)) - lineOf(trees.getSourcePositions().getStartPosition(unit, tree)) + 1;
        must(lines <= LONGEST_METHOD, 11, here(tree) + " has " + lines + " lines");
        Element around = within;
        within = element();
        calls.put(within, new LinkedHashSet<>());
        super.visitMethod(tree, none);
        within = around;
        return null;
    }

    @Override public Void visitVariable(VariableTree tree, Void none) {
        must(isTold(element().asType(), 0), 3, here(tree) + " of type " + element().asType());
        return super.visitVariable(tree, none);
    }

    private boolean isTold(TypeMirror type, int dimensions) {
        if (type instanceof ArrayType array) return dimensions < 2 && isTold(array.getComponentType(), dimensions + 1);
        if (type.getKind().isPrimitive()) return true;
        if (type.toString().startsWith(OWN)) return dimensions < 2;
        return type.toString().equals("java.lang.String") && dimensions == 0;
    }

    @Override public Void visitMethodInvocation(MethodInvocationTree tree, Void none) {
        Element called = element();
        String owner = called.getEnclosingElement().toString();
        String name = called.getSimpleName().toString();
        if (owner.startsWith(OWN)) note(called);
        else must(name.equals("<init>") || LIBRARY.getOrDefault(owner, Set.of()).contains(name), 4, here(tree) + " calls " + owner + "." + name);
        return super.visitMethodInvocation(tree, none);
    }

    private void note(Element called) {
        if (within != null && called instanceof ExecutableElement) calls.get(within).add(called);
    }

    @Override public Void visitNewClass(NewClassTree tree, Void none) {
        must(tree.getClassBody() == null, 2, here(tree) + " a class without a name");
        Element made = element();
        must(made.getEnclosingElement().toString().startsWith(OWN), 4, here(tree) + " makes " + made.getEnclosingElement());
        note(made);
        return super.visitNewClass(tree, none);
    }

    @Override public Void visitBinary(BinaryTree tree, Void none) {
        must(!trees.getTypeMirror(getCurrentPath()).toString().equals("java.lang.String"), 10, here(tree) + " joins texts by +");
        return super.visitBinary(tree, none);
    }

    @Override public Void visitCompoundAssignment(CompoundAssignmentTree tree, Void none) {
        must(!trees.getTypeMirror(getCurrentPath()).toString().equals("java.lang.String"), 10, here(tree) + " joins texts by +=");
        return super.visitCompoundAssignment(tree, none);
    }

    @Override public Void visitForLoop(ForLoopTree tree, Void none) {
        must(tree.getCondition() != null && !tree.getUpdate().isEmpty(), 9, here(tree) + " a loop whose end can not be seen");
        return super.visitForLoop(tree, none);
    }

    @Override public Void visitWhileLoop(WhileLoopTree tree, Void none) {
        must(!tree.getCondition().toString().equals("(true)"), 9, here(tree) + " a loop whose end can not be seen");
        return super.visitWhileLoop(tree, none);
    }

    @Override public Void visitDoWhileLoop(DoWhileLoopTree tree, Void none) {
        must(!tree.getCondition().toString().equals("(true)"), 9, here(tree) + " a loop whose end can not be seen");
        return super.visitDoWhileLoop(tree, none);
    }

    @Override public Void visitLambdaExpression(LambdaExpressionTree tree, Void none) {
        must(false, 2, here(tree) + " a lambda");
        return null;
    }

    @Override public Void visitMemberReference(MemberReferenceTree tree, Void none) {
        must(false, 2, here(tree) + " a method reference");
        return null;
    }

    @Override public Void visitTry(TryTree tree, Void none) {
        must(false, 6, here(tree) + " try");
        return null;
    }

    @Override public Void visitThrow(ThrowTree tree, Void none) {
        must(false, 6, here(tree) + " throw");
        return null;
    }

    @Override public Void visitSynchronized(SynchronizedTree tree, Void none) {
        must(false, 6, here(tree) + " synchronized");
        return null;
    }

    @Override public Void visitAssert(AssertTree tree, Void none) {
        must(false, 6, here(tree) + " assert");
        return null;
    }
}
