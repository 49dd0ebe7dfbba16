import com.sun.source.tree.ArrayAccessTree;
import com.sun.source.tree.ArrayTypeTree;
import com.sun.source.tree.AssertTree;
import com.sun.source.tree.BinaryTree;
import com.sun.source.tree.ClassTree;
import com.sun.source.tree.CompilationUnitTree;
import com.sun.source.tree.ExpressionTree;
import com.sun.source.tree.ForLoopTree;
import com.sun.source.tree.ImportTree;
import com.sun.source.tree.LambdaExpressionTree;
import com.sun.source.tree.LiteralTree;
import com.sun.source.tree.MemberReferenceTree;
import com.sun.source.tree.MethodInvocationTree;
import com.sun.source.tree.MethodTree;
import com.sun.source.tree.NewClassTree;
import com.sun.source.tree.PackageTree;
import com.sun.source.tree.SynchronizedTree;
import com.sun.source.tree.ThrowTree;
import com.sun.source.tree.Tree;
import com.sun.source.tree.TryTree;
import com.sun.source.tree.TypeCastTree;
import com.sun.source.tree.VariableTree;
import com.sun.source.tree.WhileLoopTree;
import com.sun.source.util.JavacTask;
import com.sun.source.util.SourcePositions;
import com.sun.source.util.TreePath;
import com.sun.source.util.TreePathScanner;
import com.sun.source.util.Trees;
import java.io.IOException;
import java.nio.file.Path;
import java.util.ArrayDeque;
import java.util.Deque;
import java.util.HashMap;
import java.util.LinkedHashSet;
import java.util.List;
import java.util.Map;
import java.util.Set;
import javax.lang.model.element.Element;
import javax.lang.model.element.ElementKind;
import javax.lang.model.element.ExecutableElement;
import javax.lang.model.element.Modifier;
import javax.lang.model.element.VariableElement;
import javax.tools.JavaCompiler;
import javax.tools.StandardJavaFileManager;
import javax.tools.ToolProvider;

/**
 * The rules of ../shared/LANGUAGE.md that can be seen in the text of src/main/java/ForgeHeats.java. Where the
 * program needs less than a rule leaves, the test leaves no more than the program needs.
 */
public final class LanguageTest extends TreePathScanner<Void, Void> {
    private static final Check CHECK = new Check("LanguageTest");
    private static final Set<String> EXCEPTIONS =
        Set.of("IndexOutOfBoundsException", "IllegalArgumentException", "IllegalStateException");
    private static final int MOST_CLASSES = 12;
    private static final int MOST_FIELDS = 20;
    private static final int MOST_PARAMETERS = 7;
    private static final int MOST_LINES = 60;
    private static final int DEEPEST = 8;

    private final CompilationUnitTree unit;
    private final Trees trees;
    private final Map<Element, Set<Element>> calls = new HashMap<>();
    private int classes;

    private LanguageTest(CompilationUnitTree unit, Trees trees) {
        this.unit = unit;
        this.trees = trees;
    }

    private void rule(int number, boolean holds, String what, Tree tree) {
        SourcePositions positions = trees.getSourcePositions();
        long line = unit.getLineMap().getLineNumber(positions.getStartPosition(unit, tree));
        CHECK.same("rule " + number + ", line " + line + ", " + what, holds ? 1 : 0, 1);
    }

    private Element elementOf(Tree tree) {
        return trees.getElement(TreePath.getPath(unit, tree));
    }

    private String typeOf(Tree tree) {
        return String.valueOf(trees.getTypeMirror(TreePath.getPath(unit, tree)));
    }

    private static boolean isOwn(Element member) {
        Element outermost = member;
        while (outermost.getEnclosingElement().getKind() != ElementKind.PACKAGE) {
            outermost = outermost.getEnclosingElement();
        }
        return outermost.getSimpleName().contentEquals("ForgeHeats");
    }

    /** The method or constructor around this place, null if there is none. */
    private MethodTree around() {
        for (Tree tree : getCurrentPath()) {
            if (tree instanceof MethodTree method) {
                return method;
            }
        }
        return null;
    }

    private boolean isInConstructor() {
        MethodTree method = around();
        return method != null && method.getReturnType() == null;
    }

    private boolean isThrown() {
        return getCurrentPath().getParentPath().getLeaf() instanceof ThrowTree;
    }

    private void addCall(Element called) {
        MethodTree caller = around();
        if (caller != null) {
            calls.computeIfAbsent(elementOf(caller), key -> new LinkedHashSet<>()).add(called);
        }
    }

    // ---- rules 1 to 3: the file, its classes, its types

    @Override
    public Void visitPackage(PackageTree tree, Void nothing) {
        rule(1, false, "a package", tree);
        return null;
    }

    @Override
    public Void visitImport(ImportTree tree, Void nothing) {
        rule(4, false, "an import", tree);
        return null;
    }

    @Override
    public Void visitClass(ClassTree tree, Void nothing) {
        classes++;
        int fields = 0;
        for (Tree member : tree.getMembers()) {
            rule(5, member.getKind() != Tree.Kind.BLOCK, "a block outside methods", member);
            if (member instanceof VariableTree field && !isStatic(field)) {
                fields++;
            }
        }
        rule(11, fields <= MOST_FIELDS, fields + " fields", tree);
        boolean isInside = elementOf(tree).getEnclosingElement().getKind() == ElementKind.CLASS;
        rule(2, isInside || elementOf(tree).getEnclosingElement().getKind() == ElementKind.PACKAGE,
            "a class in a method", tree);
        rule(2, !isInside || tree.getModifiers().getFlags().contains(Modifier.STATIC), "an inner class", tree);
        return super.visitClass(tree, nothing);
    }

    private static boolean isStatic(VariableTree field) {
        return field.getModifiers().getFlags().contains(Modifier.STATIC);
    }

    @Override
    public Void visitVariable(VariableTree tree, Void nothing) {
        String type = typeOf(tree);
        String single = type.endsWith("[]") ? type.substring(0, type.length() - 2) : type;
        boolean isOwn = single.startsWith("ForgeHeats.");
        rule(3, isOwn || List.of("int", "long", "char", "boolean", "double").contains(single), type, tree);
        if (isStatic(tree)) {
            VariableElement constant = (VariableElement) elementOf(tree);
            rule(5, constant.getConstantValue() != null, "a static field that is no constant", tree);
        }
        return super.visitVariable(tree, nothing);
    }

    @Override
    public Void visitArrayType(ArrayTypeTree tree, Void nothing) {
        rule(3, !(tree.getType() instanceof ArrayTypeTree), "an array of arrays", tree);
        return super.visitArrayType(tree, nothing);
    }

    @Override
    public Void visitLambdaExpression(LambdaExpressionTree tree, Void nothing) {
        rule(2, false, "a lambda", tree);
        return null;
    }

    @Override
    public Void visitMemberReference(MemberReferenceTree tree, Void nothing) {
        rule(2, false, "a method reference", tree);
        return null;
    }

    // ---- rule 4: the library; rule 12: what is made

    @Override
    public Void visitMethodInvocation(MethodInvocationTree tree, Void nothing) {
        Element called = elementOf(tree.getMethodSelect());
        String name = called.getEnclosingElement() + "." + called;
        boolean isSuper = name.equals("java.lang.Object.Object()");
        rule(4, isOwn(called) || isSuper || name.equals("java.lang.Math.min(int,int)")
            || name.equals("java.lang.Math.max(int,int)"), name, tree);
        addCall(called);
        return super.visitMethodInvocation(tree, nothing);
    }

    @Override
    public Void visitNewClass(NewClassTree tree, Void nothing) {
        Element made = elementOf(tree);
        rule(2, tree.getClassBody() == null, "a class without a name", tree);
        rule(12, isOwn(made) && isInConstructor() || isThrown(), "made by a call: " + made, tree);
        if (isOwn(made)) {
            addCall(made);
        }
        return super.visitNewClass(tree, nothing);
    }

    // ---- rule 6: exceptions

    @Override
    public Void visitThrow(ThrowTree tree, Void nothing) {
        boolean isWritten = tree.getExpression() instanceof NewClassTree made
            && EXCEPTIONS.contains(made.getIdentifier().toString())
            && made.getArguments().size() == 1 && made.getArguments().get(0) instanceof LiteralTree;
        rule(6, isWritten, tree.toString(), tree);
        rule(6, !isInConstructor(), "a throw in a constructor", tree);
        rule(6, around().getModifiers().getFlags().contains(Modifier.PUBLIC), "a throw behind the face", tree);
        return super.visitThrow(tree, nothing);
    }

    @Override
    public Void visitTry(TryTree tree, Void nothing) {
        rule(6, false, "a try", tree);
        return null;
    }

    @Override
    public Void visitSynchronized(SynchronizedTree tree, Void nothing) {
        rule(6, false, "a synchronized block", tree);
        return null;
    }

    @Override
    public Void visitAssert(AssertTree tree, Void nothing) {
        rule(6, false, "an assert", tree);
        return null;
    }

    // ---- rules 7, 9, 10: indices, divisors, casts, loops, texts

    @Override
    public Void visitArrayAccess(ArrayAccessTree tree, Void nothing) {
        boolean isTested = around().toString().contains(tree.getExpression() + ".length");
        rule(7, isTested, "an index that is not looked at before: " + tree, tree);
        return super.visitArrayAccess(tree, nothing);
    }

    @Override
    public Void visitBinary(BinaryTree tree, Void nothing) {
        boolean isDivision = tree.getKind() == Tree.Kind.DIVIDE || tree.getKind() == Tree.Kind.REMAINDER;
        if (isDivision && !typeOf(tree).equals("double")) {
            rule(7, isConstantAboveZero(tree.getRightOperand()), "a divisor that can be 0", tree);
        }
        rule(10, !typeOf(tree).equals("java.lang.String"), "texts joined by +", tree);
        return super.visitBinary(tree, nothing);
    }

    private boolean isConstantAboveZero(ExpressionTree divisor) {
        return elementOf(divisor) instanceof VariableElement constant
            && constant.getConstantValue() instanceof Integer value && value > 0;
    }

    @Override
    public Void visitTypeCast(TypeCastTree tree, Void nothing) {
        rule(7, List.of("char", "long", "double").contains(typeOf(tree)), "a cast to " + typeOf(tree), tree);
        return super.visitTypeCast(tree, nothing);
    }

    @Override
    public Void visitForLoop(ForLoopTree tree, Void nothing) {
        rule(9, tree.getCondition() != null, "a loop without an end", tree);
        return super.visitForLoop(tree, nothing);
    }

    @Override
    public Void visitWhileLoop(WhileLoopTree tree, Void nothing) {
        rule(9, !tree.getCondition().toString().contains("true"), "a loop without an end", tree);
        return super.visitWhileLoop(tree, nothing);
    }

    // ---- rules 8 and 11: sizes, and how deep calls go

    @Override
    public Void visitMethod(MethodTree tree, Void nothing) {
        rule(11, tree.getParameters().size() <= MOST_PARAMETERS, "parameters", tree);
        SourcePositions positions = trees.getSourcePositions();
        long first = unit.getLineMap().getLineNumber(positions.getStartPosition(unit, tree));
        // What the compiler adds to the text, a constructor that is not written, has no end in it.
        long end = positions.getEndPosition(unit, tree);
        long last = end < 0 ? first : unit.getLineMap().getLineNumber(end);
        rule(11, last - first < MOST_LINES, tree.getName() + " of " + (last - first + 1) + " lines", tree);
        return super.visitMethod(tree, nothing);
    }

    /** How deep the calls of a method go, itself included; those of the library go no deeper. */
    private int depthOf(Element method, Deque<Element> open) {
        if (open.contains(method)) {
            CHECK.tell("rule 8: " + method + " calls itself, through " + open);
            return 0;
        }
        open.push(method);
        int deepest = 0;
        for (Element called : calls.getOrDefault(method, Set.of())) {
            deepest = Math.max(deepest, depthOf(called, open));
        }
        open.pop();
        return deepest + 1;
    }

    private void sizes() {
        CHECK.same("rule 11: " + classes + " classes", classes <= MOST_CLASSES ? 1 : 0, 1);
        for (Element method : calls.keySet()) {
            if (method instanceof ExecutableElement && method.getModifiers().contains(Modifier.PUBLIC)) {
                int depth = depthOf(method, new ArrayDeque<>());
                CHECK.same("rule 11: the calls of " + method + " go " + depth + " deep", depth <= DEEPEST ? 1 : 0, 1);
            }
        }
    }

    public static void main(String[] args) throws IOException {
        JavaCompiler compiler = ToolProvider.getSystemJavaCompiler();
        try (StandardJavaFileManager files = compiler.getStandardFileManager(null, null, null)) {
            var sources = files.getJavaFileObjects(Path.of("src/main/java/ForgeHeats.java"));
            JavacTask task = (JavacTask) compiler.getTask(null, files, null, List.of("-proc:none"), null, sources);
            CompilationUnitTree unit = task.parse().iterator().next();
            task.analyze();
            LanguageTest test = new LanguageTest(unit, Trees.instance(task));
            test.scan(unit, null);
            test.sizes();
        }
        CHECK.end();
    }
}
