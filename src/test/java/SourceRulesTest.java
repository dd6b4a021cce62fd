import com.sun.source.tree.ArrayAccessTree;
import com.sun.source.tree.AssignmentTree;
import com.sun.source.tree.BinaryTree;
import com.sun.source.tree.BlockTree;
import com.sun.source.tree.ClassTree;
import com.sun.source.tree.CompilationUnitTree;
import com.sun.source.tree.CompoundAssignmentTree;
import com.sun.source.tree.ExpressionTree;
import com.sun.source.tree.ForLoopTree;
import com.sun.source.tree.IdentifierTree;
import com.sun.source.tree.MemberSelectTree;
import com.sun.source.tree.MethodInvocationTree;
import com.sun.source.tree.MethodTree;
import com.sun.source.tree.NewArrayTree;
import com.sun.source.tree.Tree;
import com.sun.source.tree.UnaryTree;
import com.sun.source.tree.VariableTree;
import com.sun.source.util.JavacTask;
import com.sun.source.util.TreePath;
import com.sun.source.util.TreePathScanner;
import com.sun.source.util.TreeScanner;
import com.sun.source.util.Trees;
import java.io.IOException;
import java.nio.file.Path;
import java.util.EnumSet;
import java.util.HashMap;
import java.util.List;
import java.util.Map;
import java.util.Set;
import java.util.TreeSet;
import javax.lang.model.element.Element;
import javax.lang.model.element.Modifier;
import javax.lang.model.element.VariableElement;
import javax.lang.model.type.ArrayType;
import javax.lang.model.type.TypeKind;
import javax.lang.model.type.TypeMirror;
import javax.tools.JavaCompiler;
import javax.tools.StandardJavaFileManager;
import javax.tools.ToolProvider;

/**
 * The rules of LANGUAGE.md that can be seen in the syntax of the class. Where a rule is hard to see
 * exactly, something stricter that the class keeps is looked for, and the comment there says so.
 */
public final class SourceRulesTest extends TreePathScanner<Void, Void> {
    private static final Path SOURCE = Path.of("src/main/java/RedBlackMap.java");
    private static final int LONGEST_METHOD = 60;
    private static final int DEEPEST_CALL = 6;
    private static final int MOST_PARAMETERS = 7;

    private static final Set<TypeKind> NUMBERS = EnumSet.of(TypeKind.INT, TypeKind.LONG,
            TypeKind.SHORT, TypeKind.BYTE, TypeKind.CHAR, TypeKind.BOOLEAN);

    private static final Set<Tree.Kind> FORBIDDEN = EnumSet.of(
            Tree.Kind.PACKAGE, Tree.Kind.IMPORT, Tree.Kind.INTERFACE, Tree.Kind.ENUM,
            Tree.Kind.RECORD, Tree.Kind.ANNOTATION_TYPE, Tree.Kind.NEW_CLASS, Tree.Kind.THROW,
            Tree.Kind.TRY, Tree.Kind.CATCH, Tree.Kind.SYNCHRONIZED, Tree.Kind.ASSERT,
            Tree.Kind.INSTANCE_OF, Tree.Kind.LAMBDA_EXPRESSION, Tree.Kind.MEMBER_REFERENCE,
            Tree.Kind.NULL_LITERAL, Tree.Kind.STRING_LITERAL, Tree.Kind.FLOAT_LITERAL,
            Tree.Kind.DOUBLE_LITERAL);

    // Loops with a counter are the only ones whose end is looked for, and a divisor would have to
    // be shown not to be 0: the class needs neither these loops nor a division.
    private static final Set<Tree.Kind> NOT_NEEDED = EnumSet.of(
            Tree.Kind.WHILE_LOOP, Tree.Kind.DO_WHILE_LOOP, Tree.Kind.ENHANCED_FOR_LOOP,
            Tree.Kind.DIVIDE, Tree.Kind.REMAINDER, Tree.Kind.DIVIDE_ASSIGNMENT,
            Tree.Kind.REMAINDER_ASSIGNMENT);

    private final CompilationUnitTree unit;
    private final Trees trees;
    private final Map<String, Set<String>> callsOf = new HashMap<>();
    private String method = "";
    private int classes = 0;
    private int arrays = 0;
    private int loops = 0;

    private SourceRulesTest(CompilationUnitTree unit, Trees trees) {
        this.unit = unit;
        this.trees = trees;
    }

    public static void main(String[] args) throws IOException {
        JavaCompiler compiler = ToolProvider.getSystemJavaCompiler();
        try (StandardJavaFileManager files = compiler.getStandardFileManager(null, null, null)) {
            JavacTask task = (JavacTask) compiler.getTask(null, files, null,
                    List.of("-proc:none"), null, files.getJavaFileObjects(SOURCE));
            CompilationUnitTree unit = task.parse().iterator().next();
            task.analyze();
            SourceRulesTest test = new SourceRulesTest(unit, Trees.instance(task));
            test.scan(unit, null);
            test.endOfScan();
        }
        Check.end();
    }

    private void endOfScan() {
        Check.due("rule 1: classes", classes, 1);
        for (String name : callsOf.keySet()) {
            int depth = depthFrom(name, new TreeSet<>());
            Check.holds("rule 10: calls from " + name + " go at most six deep, not " + depth,
                    depth <= DEEPEST_CALL);
        }
        // A scan that sees nothing would find nothing wrong.
        Check.holds("the scan has seen methods, arrays and loops",
                callsOf.size() > 13 && arrays > 0 && loops > 0);
    }

    private int depthFrom(String name, Set<String> above) {
        if (above.contains(name)) {
            Check.holds("rule 8: no recursion, but " + name + " calls itself", false);
            return 0;
        }
        Set<String> chain = new TreeSet<>(above);
        chain.add(name);
        int deepest = 0;
        for (String called : callsOf.getOrDefault(name, Set.of())) {
            deepest = Math.max(deepest, depthFrom(called, chain));
        }
        return deepest + 1;
    }

    @Override
    public Void scan(Tree tree, Void nothing) {
        if (tree != null) {
            String where = where(tree);
            Check.holds("rules 1 to 6: no " + tree.getKind() + where,
                    !FORBIDDEN.contains(tree.getKind()));
            Check.holds("rules 7 and 8: no " + tree.getKind() + where,
                    !NOT_NEEDED.contains(tree.getKind()));
        }
        return super.scan(tree, nothing);
    }

    @Override
    public Void visitClass(ClassTree tree, Void nothing) {
        classes++;
        for (Tree member : tree.getMembers()) {
            Check.holds("rule 5: no static initialiser" + where(member),
                    !(member instanceof BlockTree block) || !block.isStatic());
        }
        return super.visitClass(tree, nothing);
    }

    @Override
    public Void visitMethod(MethodTree tree, Void nothing) {
        method = tree.getName().toString();
        callsOf.putIfAbsent(method, new TreeSet<>());
        Check.holds("rule 10: at most seven parameters" + where(tree),
                tree.getParameters().size() <= MOST_PARAMETERS);
        Check.holds("rule 10: some sixty lines at most" + where(tree),
                lastLine(tree) - line(tree) < LONGEST_METHOD);
        super.visitMethod(tree, nothing);
        method = "";
        return null;
    }

    @Override
    public Void visitVariable(VariableTree tree, Void nothing) {
        VariableElement variable = (VariableElement) trees.getElement(getCurrentPath());
        TypeMirror type = variable.asType();
        Check.holds("rule 2: a plain type" + where(tree), isPlain(type));
        boolean isField = variable.getEnclosingElement().getKind().isClass();
        if (tree.getModifiers().getFlags().contains(Modifier.STATIC)) {
            Check.holds("rule 5: a compile-time constant of int or long" + where(tree),
                    variable.getConstantValue() != null
                            && (type.getKind() == TypeKind.INT || type.getKind() == TypeKind.LONG));
        }
        // Stricter than rule 4: no other name for an array, so none that could change.
        Check.holds("rule 4: no local variable or parameter names an array" + where(tree),
                isField || type.getKind() != TypeKind.ARRAY);
        return super.visitVariable(tree, nothing);
    }

    @Override
    public Void visitNewArray(NewArrayTree tree, Void nothing) {
        arrays++;
        TreePath parent = getCurrentPath().getParentPath();
        // Stricter than rule 4: not in the constructor either.
        Check.holds("rule 4: an array is made in a field's initialiser" + where(tree),
                parent.getLeaf() instanceof VariableTree
                        && parent.getParentPath().getLeaf() instanceof ClassTree);
        Check.holds("rule 4: an array has a length and no list of elements" + where(tree),
                tree.getDimensions().size() == 1 && tree.getInitializers() == null);
        for (ExpressionTree length : tree.getDimensions()) {
            Check.holds("rule 4: the length is a literal or a constant, 1 or more" + where(tree),
                    constantOf(length) >= 1);
        }
        return super.visitNewArray(tree, nothing);
    }

    /** 0 for what is neither a literal nor a constant. */
    private long constantOf(ExpressionTree tree) {
        if (tree.getKind() == Tree.Kind.INT_LITERAL) {
            return Long.parseLong(tree.toString());
        }
        Element element = trees.getElement(new TreePath(getCurrentPath(), tree));
        return element instanceof VariableElement variable
                && variable.getConstantValue() instanceof Integer value ? value : 0;
    }

    @Override
    public Void visitMethodInvocation(MethodInvocationTree tree, Void nothing) {
        Element called = trees.getElement(getCurrentPath());
        // The compiler itself adds the call of Object's constructor.
        boolean isAdded = tree.getMethodSelect().toString().equals("super");
        if (!isAdded) {
            callsOf.computeIfAbsent(method, name -> new TreeSet<>())
                    .add(called.getSimpleName().toString());
            Check.holds("rule 3: only methods of the class are called" + where(tree),
                    called.getEnclosingElement().toString().equals("RedBlackMap"));
        }
        for (ExpressionTree argument : tree.getArguments()) {
            Check.holds("rule 10: no call inside the arguments of another" + where(tree),
                    !holdsCall(argument));
        }
        return super.visitMethodInvocation(tree, nothing);
    }

    private static boolean holdsCall(Tree tree) {
        boolean[] found = {false};
        new TreeScanner<Void, Void>() {
            @Override
            public Void visitMethodInvocation(MethodInvocationTree call, Void nothing) {
                found[0] = true;
                return null;
            }
        }.scan(tree, null);
        return found[0];
    }

    @Override
    public Void visitAssignment(AssignmentTree tree, Void nothing) {
        Check.holds("rule 4: no array is assigned" + where(tree),
                typeOf(tree.getVariable()).getKind() != TypeKind.ARRAY);
        return super.visitAssignment(tree, nothing);
    }

    @Override
    public Void visitBinary(BinaryTree tree, Void nothing) {
        Check.holds("rules 2 and 4: operators stand between numbers alone" + where(tree),
                NUMBERS.contains(typeOf(tree.getLeftOperand()).getKind())
                        && NUMBERS.contains(typeOf(tree.getRightOperand()).getKind()));
        return super.visitBinary(tree, nothing);
    }

    @Override
    public Void visitIdentifier(IdentifierTree tree, Void nothing) {
        Element element = trees.getElement(getCurrentPath());
        Check.holds("rule 3: no name of another class" + where(tree),
                !element.getKind().isClass() && !element.getKind().isInterface()
                        || element.getSimpleName().contentEquals("RedBlackMap"));
        return super.visitIdentifier(tree, nothing);
    }

    @Override
    public Void visitMemberSelect(MemberSelectTree tree, Void nothing) {
        // Stricter than rule 3: without a dot no member of another class can be reached.
        Check.holds("rule 3: no member behind a dot" + where(tree), false);
        return super.visitMemberSelect(tree, nothing);
    }

    @Override
    public Void visitForLoop(ForLoopTree tree, Void nothing) {
        loops++;
        boolean isCounted = tree.getInitializer().size() == 1
                && tree.getInitializer().get(0) instanceof VariableTree
                && tree.getCondition() instanceof BinaryTree
                && tree.getUpdate().size() == 1;
        Check.holds("rule 8: a loop with one counter" + where(tree), isCounted);
        if (isCounted) {
            dueToEnd(tree);
        }
        return super.visitForLoop(tree, nothing);
    }

    /** Counted up to a bound or down to one; neither the counter nor the bound is touched inside. */
    private void dueToEnd(ForLoopTree tree) {
        String where = where(tree);
        String counter = ((VariableTree) tree.getInitializer().get(0)).getName().toString();
        BinaryTree condition = (BinaryTree) tree.getCondition();
        String bound = condition.getRightOperand().toString();
        Check.holds("rule 8: the counter stands against a bound" + where,
                condition.getLeftOperand().toString().equals(counter)
                        && condition.getRightOperand() instanceof IdentifierTree);
        String update = tree.getUpdate().get(0).getExpression().toString();
        boolean isUp = condition.getKind() == Tree.Kind.LESS_THAN && update.equals(counter + "++");
        boolean isDown =
                condition.getKind() == Tree.Kind.GREATER_THAN && update.equals(counter + "--");
        Check.holds("rule 8: the counter goes towards its bound" + where, isUp || isDown);
        Set<String> assigned = assignedIn(tree.getStatement());
        Check.holds("rule 8: the loop leaves its counter and its bound alone" + where,
                !assigned.contains(counter) && !assigned.contains(bound));
        // A method that is called could move the bound where this scan does not see it.
        Check.holds("rule 8: no call inside a loop" + where, !holdsCall(tree.getStatement()));
    }

    private static Set<String> assignedIn(Tree tree) {
        Set<String> names = new TreeSet<>();
        new TreeScanner<Void, Void>() {
            @Override
            public Void visitAssignment(AssignmentTree inner, Void nothing) {
                names.add(inner.getVariable().toString());
                return super.visitAssignment(inner, nothing);
            }

            @Override
            public Void visitCompoundAssignment(CompoundAssignmentTree inner, Void nothing) {
                names.add(inner.getVariable().toString());
                return super.visitCompoundAssignment(inner, nothing);
            }

            @Override
            public Void visitUnary(UnaryTree inner, Void nothing) {
                names.add(inner.getExpression().toString());
                return super.visitUnary(inner, nothing);
            }
        }.scan(tree, null);
        return names;
    }

    @Override
    public Void visitArrayAccess(ArrayAccessTree tree, Void nothing) {
        Check.holds("rule 2: an array of one dimension" + where(tree), isPlain(typeOf(tree)));
        return super.visitArrayAccess(tree, nothing);
    }

    private TypeMirror typeOf(Tree tree) {
        return trees.getTypeMirror(trees.getPath(unit, tree));
    }

    private static boolean isPlain(TypeMirror type) {
        if (type.getKind() == TypeKind.ARRAY) {
            return NUMBERS.contains(((ArrayType) type).getComponentType().getKind());
        }
        return NUMBERS.contains(type.getKind());
    }

    private long line(Tree tree) {
        return unit.getLineMap().getLineNumber(
                Math.max(0, trees.getSourcePositions().getStartPosition(unit, tree)));
    }

    private long lastLine(Tree tree) {
        return unit.getLineMap().getLineNumber(
                Math.max(0, trees.getSourcePositions().getEndPosition(unit, tree)));
    }

    private String where(Tree tree) {
        return " (line " + line(tree) + ")";
    }
}
