import com.sun.source.tree.ArrayTypeTree;
import com.sun.source.tree.AssertTree;
import com.sun.source.tree.AssignmentTree;
import com.sun.source.tree.BinaryTree;
import com.sun.source.tree.BlockTree;
import com.sun.source.tree.ClassTree;
import com.sun.source.tree.CompilationUnitTree;
import com.sun.source.tree.CompoundAssignmentTree;
import com.sun.source.tree.DoWhileLoopTree;
import com.sun.source.tree.EnhancedForLoopTree;
import com.sun.source.tree.ExpressionStatementTree;
import com.sun.source.tree.ExpressionTree;
import com.sun.source.tree.ForLoopTree;
import com.sun.source.tree.IdentifierTree;
import com.sun.source.tree.InstanceOfTree;
import com.sun.source.tree.LambdaExpressionTree;
import com.sun.source.tree.LiteralTree;
import com.sun.source.tree.MemberReferenceTree;
import com.sun.source.tree.MemberSelectTree;
import com.sun.source.tree.MethodInvocationTree;
import com.sun.source.tree.MethodTree;
import com.sun.source.tree.NewArrayTree;
import com.sun.source.tree.NewClassTree;
import com.sun.source.tree.PrimitiveTypeTree;
import com.sun.source.tree.StatementTree;
import com.sun.source.tree.SynchronizedTree;
import com.sun.source.tree.ThrowTree;
import com.sun.source.tree.Tree;
import com.sun.source.tree.TryTree;
import com.sun.source.tree.TypeCastTree;
import com.sun.source.tree.UnaryTree;
import com.sun.source.tree.VariableTree;
import com.sun.source.tree.WhileLoopTree;
import com.sun.source.util.JavacTask;
import com.sun.source.util.SourcePositions;
import com.sun.source.util.TreeScanner;
import com.sun.source.util.Trees;
import java.io.IOException;
import java.net.URI;
import java.util.ArrayList;
import java.util.HashMap;
import java.util.HashSet;
import java.util.List;
import java.util.Map;
import java.util.Set;
import java.util.TreeSet;
import javax.lang.model.element.Modifier;
import javax.lang.model.type.TypeKind;
import javax.tools.JavaFileObject;
import javax.tools.SimpleJavaFileObject;
import javax.tools.ToolProvider;

/**
 * Reads a source of the program and tells what in it is outside LANGUAGE.md, each fault as
 * "rule k: ...". Where the rules leave several ways it knows only the one that the program takes:
 * arrays made in the fields' initialisers, no local arrays, no explicit super or this call, and
 * counting for loops alone. Rule 7's indices it can't judge; the tests that run the program do.
 */
final class Language extends TreeScanner<Void, Void> {
    private static final Set<TypeKind> NUMBERS = Set.of(TypeKind.INT, TypeKind.LONG, TypeKind.SHORT,
            TypeKind.BYTE, TypeKind.CHAR, TypeKind.BOOLEAN);
    private static final int MOST_PARAMETERS = 7;
    private static final int MOST_LINES = 60;
    private static final int MOST_DEEP = 6;
    private static final int MOST_FIELDS = 40;

    private final List<String> faults = new ArrayList<>();
    private final Map<String, Set<String>> calls = new HashMap<>();
    private final Set<String> publicNames = new HashSet<>();
    private final Set<String> privateNames = new HashSet<>();
    private final Set<String> constants = new HashSet<>();
    private final Set<String> arrays = new HashSet<>();
    private final SourcePositions positions;
    private CompilationUnitTree unit;
    private String method = "";
    private int classes = 0;
    private int fields = 0;

    private Language(SourcePositions positions) {
        this.positions = positions;
    }

    static List<String> faults(String source) throws IOException {
        JavaFileObject file = new SimpleJavaFileObject(URI.create("string:///ConceptLattice.java"),
                JavaFileObject.Kind.SOURCE) {
            @Override
            public CharSequence getCharContent(boolean ignoreEncodingErrors) {
                return source;
            }
        };
        JavacTask task = (JavacTask) ToolProvider.getSystemJavaCompiler()
                .getTask(null, null, null, null, null, List.of(file));
        Language language = new Language(Trees.instance(task).getSourcePositions());
        for (CompilationUnitTree tree : task.parse()) {
            language.scan(tree, null);
        }
        language.judgeCalls();
        return language.faults;
    }

    private void fault(int rule, Tree tree) {
        long line = unit.getLineMap().getLineNumber(positions.getStartPosition(unit, tree));
        faults.add("rule " + rule + ": line " + line + ": " + tree.toString().lines().findFirst().orElse(""));
    }

    private void need(boolean truth, int rule, Tree tree) {
        if (!truth) {
            fault(rule, tree);
        }
    }

    @Override
    public Void visitCompilationUnit(CompilationUnitTree tree, Void none) {
        unit = tree;
        need(tree.getPackageName() == null, 1, tree);
        need(tree.getImports().isEmpty(), 3, tree);
        return super.visitCompilationUnit(tree, none);
    }

    @Override
    public Void visitClass(ClassTree tree, Void none) {
        classes++;
        need(classes == 1 && tree.getKind() == Tree.Kind.CLASS, 1, tree);
        need(tree.getModifiers().getFlags().equals(Set.of(Modifier.PUBLIC, Modifier.FINAL)), 1, tree);
        need(tree.getExtendsClause() == null && tree.getImplementsClause().isEmpty(), 1, tree);
        // Before the methods, since a field may stand below the code that names it.
        for (Tree member : tree.getMembers()) {
            if (member instanceof VariableTree field) {
                judgeField(field);
            } else if (member instanceof BlockTree) {
                fault(5, member);
            }
        }
        need(fields <= MOST_FIELDS, 10, tree);
        return super.visitClass(tree, none);
    }

    private void judgeField(VariableTree field) {
        Set<Modifier> flags = field.getModifiers().getFlags();
        boolean shared = flags.contains(Modifier.STATIC);
        need(flags.contains(Modifier.PRIVATE), 1, field);
        if (shared) {
            boolean number = field.getType() instanceof PrimitiveTypeTree type
                    && (type.getPrimitiveTypeKind() == TypeKind.INT || type.getPrimitiveTypeKind() == TypeKind.LONG);
            need(number && flags.contains(Modifier.FINAL) && field.getInitializer() != null, 5, field);
            constants.add(field.getName().toString());
        } else {
            fields++;
        }
        if (field.getType() instanceof ArrayTypeTree) {
            // Being final, it is assigned to by no method.
            need(flags.contains(Modifier.FINAL), 4, field);
            arrays.add(field.getName().toString());
        }
        if (field.getInitializer() instanceof NewArrayTree made) {
            judgeLength(made);
        }
    }

    private void judgeLength(NewArrayTree made) {
        boolean plain = made.getInitializers() == null && made.getDimensions().size() == 1;
        need(plain, 4, made);
        if (plain) {
            ExpressionTree length = made.getDimensions().get(0);
            boolean literal = length instanceof LiteralTree number
                    && number.getValue() instanceof Integer value && value >= 1;
            boolean constant = length instanceof IdentifierTree name && constants.contains(name.getName().toString());
            need(literal || constant, 4, made);
        }
    }

    @Override
    public Void visitMethod(MethodTree tree, Void none) {
        method = tree.getName().toString();
        calls.putIfAbsent(method, new TreeSet<>());
        Set<Modifier> flags = tree.getModifiers().getFlags();
        boolean open = flags.contains(Modifier.PUBLIC);
        need(open || flags.contains(Modifier.PRIVATE), 1, tree);
        (open ? publicNames : privateNames).add(method);
        need(!(tree.getReturnType() instanceof ArrayTypeTree), 4, tree);
        need(tree.getReturnType() == null || tree.getReturnType() instanceof PrimitiveTypeTree, 2, tree);
        need(tree.getThrows().isEmpty(), 6, tree);
        need(!flags.contains(Modifier.SYNCHRONIZED), 6, tree);
        need(!flags.contains(Modifier.NATIVE), 3, tree);
        need(tree.getParameters().size() <= MOST_PARAMETERS, 10, tree);
        need(tree.toString().strip().lines().count() <= MOST_LINES, 10, tree);
        for (VariableTree parameter : tree.getParameters()) {
            if (parameter.getType() instanceof ArrayTypeTree) {
                need(!open, 1, parameter);
                arrays.add(parameter.getName().toString());
            }
        }
        super.visitMethod(tree, none);
        method = "";
        return null;
    }

    @Override
    public Void visitVariable(VariableTree tree, Void none) {
        Tree type = tree.getType() instanceof ArrayTypeTree array ? array.getType() : tree.getType();
        need(type instanceof PrimitiveTypeTree kind && NUMBERS.contains(kind.getPrimitiveTypeKind()), 2, tree);
        boolean localArray = !method.isEmpty() && tree.getType() instanceof ArrayTypeTree && tree.getInitializer() != null;
        need(!localArray, 4, tree);
        return super.visitVariable(tree, none);
    }

    @Override
    public Void visitPrimitiveType(PrimitiveTypeTree tree, Void none) {
        TypeKind kind = tree.getPrimitiveTypeKind();
        need(kind == TypeKind.VOID || NUMBERS.contains(kind), 2, tree);
        return null;
    }

    @Override
    public Void visitLiteral(LiteralTree tree, Void none) {
        switch (tree.getKind()) {
            case STRING_LITERAL, FLOAT_LITERAL, DOUBLE_LITERAL -> fault(2, tree);
            case NULL_LITERAL -> fault(4, tree);
            default -> { }
        }
        return null;
    }

    @Override
    public Void visitNewArray(NewArrayTree tree, Void none) {
        need(method.isEmpty(), 4, tree);
        return super.visitNewArray(tree, none);
    }

    @Override
    public Void visitNewClass(NewClassTree tree, Void none) {
        fault(4, tree);
        return super.visitNewClass(tree, none);
    }

    @Override
    public Void visitMemberSelect(MemberSelectTree tree, Void none) {
        boolean own = tree.getExpression().toString().equals("this");
        boolean length = tree.getIdentifier().contentEquals("length")
                && arrays.contains(tree.getExpression().toString());
        need(own || length, 3, tree);
        return super.visitMemberSelect(tree, none);
    }

    @Override
    public Void visitMethodInvocation(MethodInvocationTree tree, Void none) {
        calls.computeIfAbsent(method, name -> new TreeSet<>()).add(calledBy(tree));
        for (ExpressionTree argument : tree.getArguments()) {
            need(!hasCall(argument), 10, tree);
        }
        return super.visitMethodInvocation(tree, none);
    }

    private static String calledBy(MethodInvocationTree tree) {
        String name = tree.getMethodSelect().toString();
        return name.startsWith("this.") ? name.substring("this.".length()) : name;
    }

    private static boolean hasCall(Tree part) {
        boolean[] found = {false};
        new TreeScanner<Void, Void>() {
            @Override
            public Void visitMethodInvocation(MethodInvocationTree tree, Void none) {
                found[0] = true;
                return null;
            }
        }.scan(part, null);
        return found[0];
    }

    @Override
    public Void visitBinary(BinaryTree tree, Void none) {
        switch (tree.getKind()) {
            case DIVIDE, REMAINDER -> need(isSafeDivisor(tree.getRightOperand()), 7, tree);
            case EQUAL_TO, NOT_EQUAL_TO -> need(!arrays.contains(tree.getLeftOperand().toString())
                    && !arrays.contains(tree.getRightOperand().toString()), 4, tree);
            default -> { }
        }
        return super.visitBinary(tree, none);
    }

    @Override
    public Void visitCompoundAssignment(CompoundAssignmentTree tree, Void none) {
        switch (tree.getKind()) {
            case DIVIDE_ASSIGNMENT, REMAINDER_ASSIGNMENT -> need(isSafeDivisor(tree.getExpression()), 7, tree);
            default -> { }
        }
        return super.visitCompoundAssignment(tree, none);
    }

    private static boolean isSafeDivisor(ExpressionTree tree) {
        return tree instanceof LiteralTree literal && literal.getValue() instanceof Number number
                && number.longValue() != 0;
    }

    @Override
    public Void visitForLoop(ForLoopTree tree, Void none) {
        need(isCounting(tree), 8, tree);
        return super.visitForLoop(tree, none);
    }

    // for (int k = ..; k < bound; k++), with neither k nor bound changed inside.
    private static boolean isCounting(ForLoopTree tree) {
        if (tree.getInitializer().size() != 1 || tree.getUpdate().size() != 1
                || !(tree.getInitializer().get(0) instanceof VariableTree counter)
                || !(tree.getCondition() instanceof BinaryTree condition)
                || condition.getKind() != Tree.Kind.LESS_THAN) {
            return false;
        }
        String name = counter.getName().toString();
        ExpressionStatementTree update = tree.getUpdate().get(0);
        boolean simpleBound = condition.getRightOperand() instanceof IdentifierTree
                || condition.getRightOperand() instanceof LiteralTree;
        return simpleBound
                && condition.getLeftOperand().toString().equals(name)
                && update.getExpression().getKind() == Tree.Kind.POSTFIX_INCREMENT
                && ((UnaryTree) update.getExpression()).getExpression().toString().equals(name)
                && !changes(tree.getStatement(), Set.of(name, condition.getRightOperand().toString()));
    }

    private static boolean changes(StatementTree body, Set<String> names) {
        boolean[] found = {false};
        new TreeScanner<Void, Void>() {
            @Override
            public Void visitAssignment(AssignmentTree tree, Void none) {
                found[0] |= names.contains(tree.getVariable().toString());
                return super.visitAssignment(tree, none);
            }

            @Override
            public Void visitCompoundAssignment(CompoundAssignmentTree tree, Void none) {
                found[0] |= names.contains(tree.getVariable().toString());
                return super.visitCompoundAssignment(tree, none);
            }

            @Override
            public Void visitUnary(UnaryTree tree, Void none) {
                boolean step = switch (tree.getKind()) {
                    case PREFIX_INCREMENT, PREFIX_DECREMENT, POSTFIX_INCREMENT, POSTFIX_DECREMENT -> true;
                    default -> false;
                };
                found[0] |= step && names.contains(tree.getExpression().toString());
                return super.visitUnary(tree, none);
            }
        }.scan(body, null);
        return found[0];
    }

    @Override
    public Void visitWhileLoop(WhileLoopTree tree, Void none) {
        fault(8, tree);
        return super.visitWhileLoop(tree, none);
    }

    @Override
    public Void visitDoWhileLoop(DoWhileLoopTree tree, Void none) {
        fault(8, tree);
        return super.visitDoWhileLoop(tree, none);
    }

    @Override
    public Void visitEnhancedForLoop(EnhancedForLoopTree tree, Void none) {
        fault(8, tree);
        return super.visitEnhancedForLoop(tree, none);
    }

    @Override
    public Void visitTypeCast(TypeCastTree tree, Void none) {
        need(tree.getType() instanceof PrimitiveTypeTree, 6, tree);
        return super.visitTypeCast(tree, none);
    }

    @Override
    public Void visitThrow(ThrowTree tree, Void none) {
        fault(6, tree);
        return super.visitThrow(tree, none);
    }

    @Override
    public Void visitTry(TryTree tree, Void none) {
        fault(6, tree);
        return super.visitTry(tree, none);
    }

    @Override
    public Void visitSynchronized(SynchronizedTree tree, Void none) {
        fault(6, tree);
        return super.visitSynchronized(tree, none);
    }

    @Override
    public Void visitAssert(AssertTree tree, Void none) {
        fault(6, tree);
        return super.visitAssert(tree, none);
    }

    @Override
    public Void visitInstanceOf(InstanceOfTree tree, Void none) {
        fault(6, tree);
        return super.visitInstanceOf(tree, none);
    }

    @Override
    public Void visitLambdaExpression(LambdaExpressionTree tree, Void none) {
        fault(6, tree);
        return super.visitLambdaExpression(tree, none);
    }

    @Override
    public Void visitMemberReference(MemberReferenceTree tree, Void none) {
        fault(6, tree);
        return super.visitMemberReference(tree, none);
    }

    private void judgeCalls() {
        for (String name : publicNames) {
            if (privateNames.contains(name)) {
                faults.add("rule 1: a private method bears the public name " + name);
            }
        }
        for (String caller : calls.keySet()) {
            for (String called : calls.get(caller)) {
                if (!calls.containsKey(called)) {
                    faults.add("rule 3: " + caller + " calls " + called + ", which is not a method of the class");
                }
            }
            int deep = depth(caller, new ArrayList<>());
            if (deep < 0) {
                faults.add("rule 8: " + caller + " leads to a method that calls itself");
            } else if (deep > MOST_DEEP) {
                faults.add("rule 10: calls from " + caller + " go " + deep + " deep");
            }
        }
    }

    // How many calls stand within each other, the caller's own among them; -1 if that has no end.
    private int depth(String caller, List<String> above) {
        if (above.contains(caller)) {
            return -1;
        }
        List<String> path = new ArrayList<>(above);
        path.add(caller);
        int deepest = 0;
        for (String called : calls.getOrDefault(caller, Set.of())) {
            int below = depth(called, path);
            if (below < 0) {
                return -1;
            }
            deepest = Math.max(deepest, below);
        }
        return deepest + 1;
    }
}
