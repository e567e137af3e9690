import com.sun.source.tree.ArrayAccessTree;
import com.sun.source.tree.AssertTree;
import com.sun.source.tree.AssignmentTree;
import com.sun.source.tree.BinaryTree;
import com.sun.source.tree.ClassTree;
import com.sun.source.tree.CompilationUnitTree;
import com.sun.source.tree.CompoundAssignmentTree;
import com.sun.source.tree.ConditionalExpressionTree;
import com.sun.source.tree.DoWhileLoopTree;
import com.sun.source.tree.EnhancedForLoopTree;
import com.sun.source.tree.ExpressionTree;
import com.sun.source.tree.ForLoopTree;
import com.sun.source.tree.InstanceOfTree;
import com.sun.source.tree.LambdaExpressionTree;
import com.sun.source.tree.LiteralTree;
import com.sun.source.tree.MemberReferenceTree;
import com.sun.source.tree.MethodInvocationTree;
import com.sun.source.tree.MethodTree;
import com.sun.source.tree.NewArrayTree;
import com.sun.source.tree.NewClassTree;
import com.sun.source.tree.SynchronizedTree;
import com.sun.source.tree.ThrowTree;
import com.sun.source.tree.Tree;
import com.sun.source.tree.TryTree;
import com.sun.source.tree.TypeCastTree;
import com.sun.source.tree.UnaryTree;
import com.sun.source.tree.VariableTree;
import com.sun.source.tree.WhileLoopTree;
import com.sun.source.util.JavacTask;
import com.sun.source.util.SourcePositions;
import com.sun.source.util.TreePath;
import com.sun.source.util.TreePathScanner;
import com.sun.source.util.Trees;
import java.io.IOException;
import java.nio.file.Path;
import java.util.HashMap;
import java.util.HashSet;
import java.util.LinkedHashMap;
import java.util.LinkedHashSet;
import java.util.List;
import java.util.Map;
import java.util.Set;
import javax.lang.model.element.Element;
import javax.lang.model.element.ElementKind;
import javax.lang.model.element.ExecutableElement;
import javax.lang.model.element.Modifier;
import javax.lang.model.element.TypeElement;
import javax.lang.model.type.ArrayType;
import javax.lang.model.type.DeclaredType;
import javax.lang.model.type.TypeKind;
import javax.lang.model.type.TypeMirror;
import javax.tools.JavaCompiler;
import javax.tools.StandardJavaFileManager;
import javax.tools.ToolProvider;

/** The rules of ../shared/LANGUAGE.md that the compiler's own tree of the program shows. */
public final class LanguageTree extends TreePathScanner<Void, Void> {
    private static final Checks C = new Checks();
    private static final Path PROGRAM = Path.of("src/main/java/WhoComplainsCarries.java");
    /** The rules say "some sixty", "some twelve", "some twenty"; so a little more is let pass. */
    private static final int MOST_LINES = 66;
    private static final int MOST_CLASSES = 13;
    private static final int MOST_FIELDS = 22;
    private static final int MOST_PARAMETERS = 7;
    private static final int MOST_DEEP = 8;
    private static final int MOST_OPEN = 200;

    /** Of what rule 4 lets be called, what the program may need. */
    private static final Set<String> LIBRARY = Set.of("java.lang.String.length",
        "java.lang.String.charAt", "java.lang.Math.min", "java.lang.Math.max",
        "java.lang.System.arraycopy", "java.lang.Object.<init>");

    private final Trees trees;
    private final SourcePositions places;
    private final CompilationUnitTree unit;
    private final Set<String> face = new HashSet<>();
    private final Map<ExecutableElement, Set<ExecutableElement>> calls = new LinkedHashMap<>();
    private final Set<ExecutableElement> recursions = new HashSet<>();
    private int classes = 0;

    private LanguageTree(JavacTask task) throws IOException {
        trees = Trees.instance(task);
        places = trees.getSourcePositions();
        unit = task.parse().iterator().next();
        task.analyze();
    }

    public static void main(String[] args) throws IOException {
        JavaCompiler compiler = ToolProvider.getSystemJavaCompiler();
        try (StandardJavaFileManager files = compiler.getStandardFileManager(null, null, null)) {
            JavacTask task = (JavacTask) compiler.getTask(null, files, null, List.of("-proc:none"),
                null, files.getJavaFileObjects(PROGRAM));
            LanguageTree rules = new LanguageTree(task);
            rules.look();
        }
        C.end("LanguageTree");
    }

    private void look() {
        C.due("imports", unit.getImports().size(), 0);
        C.due("package lines", unit.getPackageName() == null ? 0 : 1, 0);
        C.due("classes beside one another", unit.getTypeDecls().size(), 1);
        ClassTree program = (ClassTree) unit.getTypeDecls().get(0);
        for (Tree member : program.getMembers()) {
            if (member instanceof MethodTree method
                    && method.getModifiers().getFlags().contains(Modifier.PUBLIC)) {
                face.add(method.getName().toString());
            }
        }
        C.due("methods of the face, and the constructor", face.size(), 40);
        scan(unit, null);
        fine("rule 11: some twelve classes", classes - 1 <= MOST_CLASSES);
        depths();
    }

    private static void fine(String rule, boolean holds) {
        C.due(rule, holds ? 1 : 0, 1);
    }

    private void never(String rule, Tree tree) {
        C.due(rule + ": " + tree, 1, 0);
    }

    private TypeMirror typeOf(Tree tree) {
        return trees.getTypeMirror(new TreePath(getCurrentPath(), tree));
    }

    private Element elementOf(Tree tree) {
        return trees.getElement(new TreePath(getCurrentPath(), tree));
    }

    private MethodTree methodHere() {
        for (TreePath at = getCurrentPath(); at != null; at = at.getParentPath()) {
            if (at.getLeaf() instanceof MethodTree method) {
                return method;
            }
        }
        return null;
    }

    private static boolean isOwn(Element type) {
        return (type + ".").startsWith("WhoComplainsCarries.");
    }

    private static boolean isString(TypeMirror type) {
        return type != null && type.toString().equals("java.lang.String");
    }

    // ---- rules 1, 2, 5, 11: classes, members, fields ----

    @Override
    public Void visitClass(ClassTree tree, Void none) {
        classes++;
        boolean outer = getCurrentPath().getParentPath().getLeaf() instanceof CompilationUnitTree;
        boolean inside = getCurrentPath().getParentPath().getLeaf() instanceof ClassTree;
        Set<Modifier> flags = tree.getModifiers().getFlags();
        String name = "class " + tree.getSimpleName();
        fine("rule 2: no local class: " + name, outer || inside);
        fine("rule 1: " + name + " is public and final", !outer
            || flags.contains(Modifier.PUBLIC) && flags.contains(Modifier.FINAL));
        fine("rule 2: " + name + " is static", outer || flags.contains(Modifier.STATIC));
        fine("rule 1: " + name + " is not open to all", outer
            || !flags.contains(Modifier.PUBLIC) && !flags.contains(Modifier.PROTECTED));
        int fields = 0;
        for (Tree member : tree.getMembers()) {
            if (member instanceof VariableTree field) {
                fields += field.getModifiers().getFlags().contains(Modifier.STATIC) ? 0 : 1;
            }
            fine("rule 5: no block in " + name, member.getKind() != Tree.Kind.BLOCK);
        }
        fine("rule 11: some twenty fields in " + name, fields <= MOST_FIELDS);
        return super.visitClass(tree, none);
    }

    @Override
    public Void visitVariable(VariableTree tree, Void none) {
        Element element = trees.getElement(getCurrentPath());
        TypeMirror type = element.asType();
        fine("rule 3: the type of " + tree, isFree(type));
        if (element.getKind() == ElementKind.FIELD
                && element.getModifiers().contains(Modifier.STATIC)) {
            fine("rule 5: final: " + tree, element.getModifiers().contains(Modifier.FINAL));
            fine("rule 5: written out: " + tree, isWrittenOut(tree.getInitializer()));
        }
        return super.visitVariable(tree, none);
    }

    private static boolean isFree(TypeMirror type) {
        if (type.getKind() == TypeKind.ARRAY) {
            TypeMirror part = ((ArrayType) type).getComponentType();
            return part.getKind() != TypeKind.ARRAY && !isString(part) && isFree(part);
        }
        boolean own = type.getKind() == TypeKind.DECLARED && isOwn(((DeclaredType) type).asElement());
        return type.getKind().isPrimitive() || own || isString(type);
    }

    private static boolean isWrittenOut(Tree value) {
        if (value instanceof NewArrayTree array) {
            return array.getInitializers() != null
                && array.getInitializers().stream().allMatch(LanguageTree::isWrittenOut);
        }
        boolean minus = value instanceof UnaryTree && value.getKind() == Tree.Kind.UNARY_MINUS;
        return value instanceof LiteralTree
            || minus && ((UnaryTree) value).getExpression() instanceof LiteralTree;
    }

    @Override
    public Void visitMethod(MethodTree tree, Void none) {
        ExecutableElement method = (ExecutableElement) trees.getElement(getCurrentPath());
        calls.putIfAbsent(method, new LinkedHashSet<>());
        Set<Modifier> flags = tree.getModifiers().getFlags();
        String name = method.getEnclosingElement().getSimpleName() + "." + method;
        boolean outer = method.getEnclosingElement().toString().equals("WhoComplainsCarries");
        boolean hidden = flags.contains(Modifier.PRIVATE);
        fine("rule 1: " + name + " is of the face or hidden", !outer || hidden
            || flags.contains(Modifier.PUBLIC));
        fine("rule 1: " + name + " has its name alone", !hidden || tree.getReturnType() == null
            || !face.contains(tree.getName().toString()));
        fine("rule 11: parameters of " + name, tree.getParameters().size() <= MOST_PARAMETERS);
        long from = unit.getLineMap().getLineNumber(places.getStartPosition(unit, tree));
        long to = unit.getLineMap().getLineNumber(places.getEndPosition(unit, tree));
        fine("rule 11: lines of " + name, to - from + 1 <= MOST_LINES);
        fine("rule 6: no throws in " + name, tree.getThrows().isEmpty());
        Set<String> never = Set.of("equals", "hashCode", "toString", "finalize");
        fine("rule 6: " + name, !never.contains(tree.getName().toString()));
        return super.visitMethod(tree, none);
    }

    // ---- rules 4, 8, 12: calls and objects ----

    @Override
    public Void visitMethodInvocation(MethodInvocationTree tree, Void none) {
        called((ExecutableElement) trees.getElement(getCurrentPath()));
        return super.visitMethodInvocation(tree, none);
    }

    @Override
    public Void visitNewClass(NewClassTree tree, Void none) {
        fine("rule 2: no anonymous class: " + tree, tree.getClassBody() == null);
        madeByConstructor(tree);
        called((ExecutableElement) trees.getElement(getCurrentPath()));
        return super.visitNewClass(tree, none);
    }

    @Override
    public Void visitNewArray(NewArrayTree tree, Void none) {
        if (methodHere() != null) {
            madeByConstructor(tree);
        }
        return super.visitNewArray(tree, none);
    }

    /** README.md says that no call makes an object; rule 12 wants few. */
    private void madeByConstructor(Tree tree) {
        MethodTree method = methodHere();
        fine("made by a constructor: " + tree, method != null && method.getReturnType() == null);
    }

    private void called(ExecutableElement callee) {
        TypeElement owner = (TypeElement) callee.getEnclosingElement();
        if (!isOwn(owner)) {
            String name = owner.getQualifiedName() + "." + callee.getSimpleName();
            fine("rule 4: " + name, LIBRARY.contains(name));
            return;
        }
        TreePath at = getCurrentPath();
        while (!(at.getLeaf() instanceof MethodTree)) {
            at = at.getParentPath();
        }
        ExecutableElement caller = (ExecutableElement) trees.getElement(at);
        if (caller.equals(callee)) {
            recursions.add(callee);
        } else {
            calls.computeIfAbsent(caller, m -> new LinkedHashSet<>()).add(callee);
        }
    }

    /** Rules 8 and 11: what calls itself is private and static; all else goes eight deep at most. */
    private void depths() {
        for (ExecutableElement method : recursions) {
            Set<Modifier> flags = method.getModifiers();
            fine("rule 8: " + method, flags.contains(Modifier.PRIVATE)
                && flags.contains(Modifier.STATIC));
        }
        C.due("methods that call themselves", recursions.size(), 2);
        Map<ExecutableElement, Integer> known = new HashMap<>();
        for (ExecutableElement method : calls.keySet()) {
            int deep = depth(method, known, new HashSet<>());
            fine("rule 11: " + method + " goes " + deep + " deep", deep <= MOST_DEEP);
        }
    }

    private int depth(ExecutableElement method, Map<ExecutableElement, Integer> known,
            Set<ExecutableElement> open) {
        if (known.containsKey(method)) {
            return known.get(method);
        }
        fine("rule 8: " + method + " is in no ring of calls", open.add(method));
        int deepest = 0;
        if (open.size() < MOST_OPEN) {
            for (ExecutableElement callee : calls.getOrDefault(method, Set.of())) {
                deepest = Math.max(deepest, depth(callee, known, open));
            }
        }
        open.remove(method);
        known.put(method, deepest + 1);
        return deepest + 1;
    }

    // ---- rules 2, 6, 10: what must not stand there ----

    @Override
    public Void visitLambdaExpression(LambdaExpressionTree tree, Void none) {
        never("rule 2", tree);
        return null;
    }

    @Override
    public Void visitMemberReference(MemberReferenceTree tree, Void none) {
        never("rule 2", tree);
        return null;
    }

    @Override
    public Void visitThrow(ThrowTree tree, Void none) {
        never("rule 6", tree);
        return null;
    }

    @Override
    public Void visitTry(TryTree tree, Void none) {
        never("rule 6", tree);
        return null;
    }

    @Override
    public Void visitSynchronized(SynchronizedTree tree, Void none) {
        never("rule 6", tree);
        return null;
    }

    @Override
    public Void visitAssert(AssertTree tree, Void none) {
        never("rule 6", tree);
        return null;
    }

    @Override
    public Void visitInstanceOf(InstanceOfTree tree, Void none) {
        never("the program needs none", tree);
        return null;
    }

    @Override
    public Void visitTypeCast(TypeCastTree tree, Void none) {
        fine("rule 6: a cast of numbers: " + tree, typeOf(tree.getType()).getKind().isPrimitive());
        return super.visitTypeCast(tree, none);
    }

    // ---- rules 5, 7, 10: what is put where, divisors ----

    @Override
    public Void visitAssignment(AssignmentTree tree, Void none) {
        keepsConstants(tree.getVariable());
        return super.visitAssignment(tree, none);
    }

    @Override
    public Void visitCompoundAssignment(CompoundAssignmentTree tree, Void none) {
        keepsConstants(tree.getVariable());
        fine("rule 10: no joining by +=: " + tree, !isString(typeOf(tree.getVariable())));
        boolean divides = tree.getKind() == Tree.Kind.DIVIDE_ASSIGNMENT
            || tree.getKind() == Tree.Kind.REMAINDER_ASSIGNMENT;
        fine("rule 7: " + tree, !divides);
        return super.visitCompoundAssignment(tree, none);
    }

    @Override
    public Void visitUnary(UnaryTree tree, Void none) {
        Set<Tree.Kind> puts = Set.of(Tree.Kind.PREFIX_INCREMENT, Tree.Kind.PREFIX_DECREMENT,
            Tree.Kind.POSTFIX_INCREMENT, Tree.Kind.POSTFIX_DECREMENT);
        if (puts.contains(tree.getKind())) {
            keepsConstants(tree.getExpression());
        }
        return super.visitUnary(tree, none);
    }

    private void keepsConstants(ExpressionTree put) {
        ExpressionTree base = put;
        while (base instanceof ArrayAccessTree place) {
            base = place.getExpression();
        }
        if (base != put || put.getKind() == Tree.Kind.IDENTIFIER) {
            Element element = elementOf(base);
            fine("rule 5: never changed: " + put, element == null
                || !element.getModifiers().contains(Modifier.STATIC));
        }
    }

    @Override
    public Void visitBinary(BinaryTree tree, Void none) {
        TypeMirror left = typeOf(tree.getLeftOperand());
        TypeMirror right = typeOf(tree.getRightOperand());
        fine("rules 6, 10: no == or + of Strings: " + tree, !isString(left) && !isString(right));
        boolean divides = tree.getKind() == Tree.Kind.DIVIDE
            || tree.getKind() == Tree.Kind.REMAINDER;
        fine("rule 7: a divisor is looked at: " + tree, !divides || isLookedAt(tree.getRightOperand()));
        return super.visitBinary(tree, none);
    }

    /** A number above 0, or behind 'divisor < 1 ? .. :'. */
    private boolean isLookedAt(ExpressionTree divisor) {
        if (divisor instanceof LiteralTree literal) {
            return ((Number) literal.getValue()).longValue() > 0;
        }
        Tree below = getCurrentPath().getLeaf();
        for (TreePath at = getCurrentPath(); at != null; at = at.getParentPath()) {
            if (at.getLeaf() instanceof ConditionalExpressionTree choice
                    && choice.getFalseExpression() == below
                    && choice.getCondition().toString().equals(divisor + " < 1")) {
                return true;
            }
            below = at.getLeaf();
        }
        return false;
    }

    // ---- rule 9: loops ----

    @Override
    public Void visitForLoop(ForLoopTree tree, Void none) {
        fine("rule 9: has an end: for " + tree.getCondition(), tree.getUpdate().size() == 1
            && tree.getInitializer().size() == 1 && compares(tree.getCondition()));
        return super.visitForLoop(tree, none);
    }

    @Override
    public Void visitWhileLoop(WhileLoopTree tree, Void none) {
        fine("rule 9: has an end: while " + tree.getCondition(), compares(tree.getCondition()));
        return super.visitWhileLoop(tree, none);
    }

    @Override
    public Void visitDoWhileLoop(DoWhileLoopTree tree, Void none) {
        fine("rule 9: has an end: do while " + tree.getCondition(), compares(tree.getCondition()));
        return super.visitDoWhileLoop(tree, none);
    }

    @Override
    public Void visitEnhancedForLoop(EnhancedForLoopTree tree, Void none) {
        fine("rule 12: over an array: " + tree.getExpression(),
            typeOf(tree.getExpression()).getKind() == TypeKind.ARRAY);
        return super.visitEnhancedForLoop(tree, none);
    }

    private static boolean compares(ExpressionTree condition) {
        if (condition == null) {
            return false;
        }
        String text = condition.toString();
        return text.contains(" < ") || text.contains(" <= ") || text.contains(" >= ")
            || text.contains(" > ");
    }
}
