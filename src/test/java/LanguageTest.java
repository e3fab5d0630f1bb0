import com.sun.source.tree.ArrayAccessTree;
import com.sun.source.tree.ArrayTypeTree;
import com.sun.source.tree.AssignmentTree;
import com.sun.source.tree.BinaryTree;
import com.sun.source.tree.ClassTree;
import com.sun.source.tree.CompilationUnitTree;
import com.sun.source.tree.CompoundAssignmentTree;
import com.sun.source.tree.ExpressionTree;
import com.sun.source.tree.ForLoopTree;
import com.sun.source.tree.IdentifierTree;
import com.sun.source.tree.LiteralTree;
import com.sun.source.tree.MethodInvocationTree;
import com.sun.source.tree.MethodTree;
import com.sun.source.tree.NewArrayTree;
import com.sun.source.tree.PrimitiveTypeTree;
import com.sun.source.tree.Tree;
import com.sun.source.tree.Tree.Kind;
import com.sun.source.tree.UnaryTree;
import com.sun.source.tree.VariableTree;
import com.sun.source.util.JavacTask;
import com.sun.source.util.SourcePositions;
import com.sun.source.util.TreePath;
import com.sun.source.util.TreePathScanner;
import com.sun.source.util.Trees;
import java.io.IOException;
import java.nio.file.Path;
import java.util.EnumSet;
import java.util.HashMap;
import java.util.HashSet;
import java.util.Map;
import java.util.Set;
import java.util.TreeSet;
import java.util.function.Consumer;
import javax.lang.model.element.Modifier;
import javax.lang.model.type.TypeKind;
import javax.tools.JavaCompiler;
import javax.tools.StandardJavaFileManager;
import javax.tools.ToolProvider;

/**
 * The rules of LANGUAGE.md, as far as the source shows them, on the tree that javac makes of the class.
 *
 * Where a rule leaves a choice, only what the class makes use of is let through: a while loop, say, would be within
 * the rules, but this test cannot see its end.
 */
public final class LanguageTest extends Checks {
    private static final Path SOURCE = Path.of("src/main/java/GllRecogniser.java");
    private static final Set<TypeKind> NUMBERS = EnumSet.of(
        TypeKind.INT, TypeKind.LONG, TypeKind.SHORT, TypeKind.BYTE, TypeKind.CHAR, TypeKind.BOOLEAN);
    private static final Set<Kind> ARITHMETIC = EnumSet.of(
        Kind.PLUS, Kind.MINUS, Kind.MULTIPLY, Kind.DIVIDE, Kind.REMAINDER, Kind.LEFT_SHIFT, Kind.RIGHT_SHIFT,
        Kind.UNSIGNED_RIGHT_SHIFT, Kind.AND, Kind.OR, Kind.XOR, Kind.UNARY_MINUS, Kind.UNARY_PLUS,
        Kind.BITWISE_COMPLEMENT, Kind.PARENTHESIZED, Kind.INT_LITERAL, Kind.LONG_LITERAL, Kind.IDENTIFIER);
    private static final Set<Kind> ORDER = EnumSet.of(
        Kind.LESS_THAN, Kind.LESS_THAN_EQUAL, Kind.GREATER_THAN, Kind.GREATER_THAN_EQUAL);
    private static final Set<Kind> STEPS = EnumSet.of(
        Kind.POSTFIX_INCREMENT, Kind.POSTFIX_DECREMENT, Kind.PREFIX_INCREMENT, Kind.PREFIX_DECREMENT);
    private static final Set<Kind> DIVISIONS = EnumSet.of(
        Kind.DIVIDE, Kind.REMAINDER, Kind.DIVIDE_ASSIGNMENT, Kind.REMAINDER_ASSIGNMENT);
    private static final Set<Kind> ALLOWED = allowed();

    private static CompilationUnitTree unit;
    private static SourcePositions positions;
    private static ClassTree theClass;
    private static final Map<String, MethodTree> METHODS = new HashMap<>();
    private static final Map<String, VariableTree> FIELDS = new HashMap<>();
    private static final Map<String, Set<String>> CALLS = new HashMap<>();

    public static void main(String[] args) throws IOException {
        parse();
        oneClass();
        typesAndKinds();
        arrays();
        constants();
        divisors();
        loops();
        calls();
        sizes();
        finish();
    }

    private static Set<Kind> allowed() {
        Set<Kind> kinds = EnumSet.copyOf(ARITHMETIC);
        kinds.addAll(ORDER);
        kinds.addAll(STEPS);
        kinds.addAll(DIVISIONS);
        kinds.addAll(EnumSet.of(
            Kind.COMPILATION_UNIT, Kind.CLASS, Kind.MODIFIERS, Kind.METHOD, Kind.VARIABLE, Kind.BLOCK,
            Kind.PRIMITIVE_TYPE, Kind.ARRAY_TYPE, Kind.NEW_ARRAY, Kind.ARRAY_ACCESS, Kind.BOOLEAN_LITERAL,
            Kind.EXPRESSION_STATEMENT, Kind.METHOD_INVOCATION, Kind.IF, Kind.FOR_LOOP, Kind.SWITCH, Kind.CASE,
            Kind.BREAK, Kind.CONTINUE, Kind.RETURN, Kind.CONDITIONAL_EXPRESSION, Kind.LOGICAL_COMPLEMENT));
        kinds.addAll(EnumSet.of(
            Kind.CONDITIONAL_AND, Kind.CONDITIONAL_OR, Kind.EQUAL_TO, Kind.NOT_EQUAL_TO, Kind.ASSIGNMENT,
            Kind.PLUS_ASSIGNMENT, Kind.MINUS_ASSIGNMENT, Kind.MULTIPLY_ASSIGNMENT, Kind.LEFT_SHIFT_ASSIGNMENT,
            Kind.RIGHT_SHIFT_ASSIGNMENT, Kind.AND_ASSIGNMENT, Kind.OR_ASSIGNMENT, Kind.XOR_ASSIGNMENT));
        return kinds;
    }

    private static void parse() throws IOException {
        JavaCompiler compiler = ToolProvider.getSystemJavaCompiler();
        try (StandardJavaFileManager files = compiler.getStandardFileManager(null, null, null)) {
            JavacTask task = (JavacTask) compiler.getTask(null, files, null, null, null, files.getJavaFileObjects(SOURCE));
            unit = task.parse().iterator().next();
            positions = Trees.instance(task).getSourcePositions();
        }
        theClass = (ClassTree) unit.getTypeDecls().get(0);
        for (Tree member : theClass.getMembers()) {
            if (member instanceof MethodTree) {
                MethodTree method = (MethodTree) member;
                MethodTree other = METHODS.put(method.getName().toString(), method);
                rule(1, other == null, member, "has a name that another method has");
            } else if (member instanceof VariableTree) {
                FIELDS.put(((VariableTree) member).getName().toString(), (VariableTree) member);
            }
        }
    }

    private static void rule(int number, boolean kept, Tree where, String fault) {
        check(kept, "rule " + number + ", line " + lineOf(where) + ": " + fault + ": " + where);
    }

    private static long lineOf(Tree tree) {
        return unit.getLineMap().getLineNumber(positions.getStartPosition(unit, tree));
    }

    /** Every part of the tree with the way that leads to it. */
    private static void everywhere(Tree from, Consumer<TreePath> look) {
        TreePath start = TreePath.getPath(unit, from);
        look.accept(start);
        // The scanner itself begins below its start.
        new TreePathScanner<Void, Void>() {
            @Override
            public Void scan(Tree tree, Void nothing) {
                if (tree != null) {
                    look.accept(new TreePath(getCurrentPath(), tree));
                }
                return super.scan(tree, nothing);
            }
        }.scan(start, null);
    }

    private static boolean isStatic(VariableTree field) {
        return field.getModifiers().getFlags().contains(Modifier.STATIC);
    }

    private static boolean isArray(VariableTree variable) {
        return variable.getType() instanceof ArrayTypeTree;
    }

    private static String nameOf(Tree tree) {
        return tree instanceof IdentifierTree ? ((IdentifierTree) tree).getName().toString() : "";
    }

    private static boolean isConstant(Tree tree) {
        VariableTree field = FIELDS.get(nameOf(tree));
        return field != null && isStatic(field) || tree.getKind() == Kind.INT_LITERAL || tree.getKind() == Kind.LONG_LITERAL;
    }

    private static void oneClass() {
        rule(1, unit.getPackageName() == null, unit, "there is a package line");
        rule(1, unit.getTypeDecls().size() == 1, unit, "there is not just one class");
        rule(3, unit.getImports().isEmpty(), unit, "there is an import");
        for (Tree member : theClass.getMembers()) {
            boolean isMember = member instanceof MethodTree || member instanceof VariableTree;
            rule(1, isMember, member, "a nested class or an initialiser");
        }
        for (VariableTree field : FIELDS.values()) {
            rule(1, field.getModifiers().getFlags().contains(Modifier.PRIVATE), field, "is not private");
        }
        for (MethodTree method : METHODS.values()) {
            Set<Modifier> flags = method.getModifiers().getFlags();
            boolean isOpen = flags.contains(Modifier.PUBLIC);
            rule(1, isOpen || flags.contains(Modifier.PRIVATE), method, "is neither public nor private");
            rule(6, !flags.contains(Modifier.SYNCHRONIZED), method, "is synchronized");
            rule(6, method.getThrows().isEmpty(), method, "throws");
        }
    }

    private static void typesAndKinds() {
        everywhere(theClass, path -> {
            Tree tree = path.getLeaf();
            check(ALLOWED.contains(tree.getKind()),
                "rules 2, 3, 6 and 8, line " + lineOf(tree) + ": " + tree.getKind() + " is not let through: " + tree);
            if (tree instanceof VariableTree) {
                rule(2, isType(((VariableTree) tree).getType()), tree, "has another type");
            }
            if (tree instanceof MethodTree) {
                Tree type = ((MethodTree) tree).getReturnType();
                boolean isVoid = type instanceof PrimitiveTypeTree
                    && ((PrimitiveTypeTree) type).getPrimitiveTypeKind() == TypeKind.VOID;
                rule(4, type == null || isVoid || isNumber(type), tree, "answers something else than a number");
            }
        });
    }

    private static boolean isNumber(Tree type) {
        return type instanceof PrimitiveTypeTree && NUMBERS.contains(((PrimitiveTypeTree) type).getPrimitiveTypeKind());
    }

    private static boolean isType(Tree type) {
        return isNumber(type) || type instanceof ArrayTypeTree && isNumber(((ArrayTypeTree) type).getType());
    }

    private static void arrays() {
        Set<Tree> made = new HashSet<>();
        for (VariableTree field : FIELDS.values()) {
            if (isArray(field)) {
                rule(4, field.getModifiers().getFlags().contains(Modifier.FINAL), field, "can be assigned to");
                made.add(field.getInitializer());
                rule(4, isFixedArray(field.getInitializer()), field, "is not made with a fixed length");
            }
        }
        everywhere(theClass, path -> {
            Tree tree = path.getLeaf();
            rule(4, !(tree instanceof NewArrayTree) || made.contains(tree), tree, "is made outside a field");
            VariableTree field = FIELDS.get(nameOf(tree));
            if (field != null && isArray(field)) {
                Tree around = path.getParentPath().getLeaf();
                boolean isLookedInto = around instanceof ArrayAccessTree
                    && ((ArrayAccessTree) around).getExpression() == tree;
                rule(4, isLookedInto, around, "does more with an array than to look into it");
            }
            if (tree instanceof VariableTree && isArray((VariableTree) tree)) {
                rule(4, FIELDS.containsValue(tree), tree, "is an array beside the fields");
            }
        });
    }

    private static boolean isFixedArray(Tree tree) {
        if (!(tree instanceof NewArrayTree)) {
            return false;
        }
        NewArrayTree array = (NewArrayTree) tree;
        if (array.getInitializers() != null || array.getDimensions().size() != 1) {
            return false;
        }
        ExpressionTree length = array.getDimensions().get(0);
        boolean isNone = length instanceof LiteralTree && ((LiteralTree) length).getValue().equals(0);
        return isConstant(length) && !isNone;
    }

    private static void constants() {
        for (VariableTree field : FIELDS.values()) {
            if (isStatic(field)) {
                String type = field.getType().toString();
                rule(5, type.equals("int") || type.equals("long"), field, "is static and no int or long");
                rule(5, field.getModifiers().getFlags().contains(Modifier.FINAL), field, "is static and not final");
                rule(5, field.getInitializer() != null, field, "has no value");
                everywhere(field.getInitializer(), path -> {
                    Tree tree = path.getLeaf();
                    rule(5, ARITHMETIC.contains(tree.getKind()), tree, "is not worked out by the compiler");
                    rule(5, !(tree instanceof IdentifierTree) || isConstant(tree), tree, "is no constant");
                });
            }
        }
    }

    private static void divisors() {
        everywhere(theClass, path -> {
            Tree tree = path.getLeaf();
            if (DIVISIONS.contains(tree.getKind())) {
                ExpressionTree by = tree instanceof BinaryTree
                    ? ((BinaryTree) tree).getRightOperand() : ((CompoundAssignmentTree) tree).getExpression();
                boolean isZero = by instanceof LiteralTree && ((Number) ((LiteralTree) by).getValue()).longValue() == 0;
                rule(7, isConstant(by) && !isZero, tree, "divides by what might be 0");
            }
        });
    }

    private static void loops() {
        everywhere(theClass, path -> {
            if (path.getLeaf() instanceof ForLoopTree) {
                loop((ForLoopTree) path.getLeaf());
            }
        });
    }

    /** A counter of the loop's own goes by steps of one to a bound, and nothing in the loop turns it back. */
    private static void loop(ForLoopTree loop) {
        boolean isCounted = loop.getInitializer().size() == 1 && loop.getInitializer().get(0) instanceof VariableTree
            && loop.getUpdate().size() == 1 && loop.getCondition() != null;
        rule(8, isCounted, loop, "has no counter");
        if (!isCounted) {
            return;
        }
        String counter = ((VariableTree) loop.getInitializer().get(0)).getName().toString();
        ExpressionTree step = loop.getUpdate().get(0).getExpression();
        boolean isStep = STEPS.contains(step.getKind()) && nameOf(((UnaryTree) step).getExpression()).equals(counter);
        rule(8, isStep, loop, "does not step its counter");
        boolean isUp = step.getKind() == Kind.POSTFIX_INCREMENT || step.getKind() == Kind.PREFIX_INCREMENT;
        rule(8, isBounded(loop.getCondition(), counter, isUp), loop, "does not hold its counter against a bound");
        everywhere(loop.getStatement(), path -> {
            rule(8, !changed(path.getLeaf()).equals(counter), loop, "changes its counter");
        });
    }

    private static boolean isBounded(ExpressionTree condition, String counter, boolean isUp) {
        BinaryTree binary = condition instanceof BinaryTree ? (BinaryTree) condition : null;
        if (binary != null && binary.getKind() == Kind.CONDITIONAL_AND) {
            return isBounded(binary.getLeftOperand(), counter, isUp) || isBounded(binary.getRightOperand(), counter, isUp);
        }
        Set<Kind> due = isUp ? EnumSet.of(Kind.LESS_THAN, Kind.LESS_THAN_EQUAL)
            : EnumSet.of(Kind.GREATER_THAN, Kind.GREATER_THAN_EQUAL);
        return binary != null && due.contains(binary.getKind()) && nameOf(binary.getLeftOperand()).equals(counter);
    }

    private static String changed(Tree tree) {
        if (tree instanceof AssignmentTree) {
            return nameOf(((AssignmentTree) tree).getVariable());
        }
        if (tree instanceof CompoundAssignmentTree) {
            return nameOf(((CompoundAssignmentTree) tree).getVariable());
        }
        return STEPS.contains(tree.getKind()) ? nameOf(((UnaryTree) tree).getExpression()) : "";
    }

    private static void calls() {
        for (MethodTree method : METHODS.values()) {
            Set<String> called = new TreeSet<>();
            everywhere(method, path -> {
                if (path.getLeaf() instanceof MethodInvocationTree) {
                    MethodInvocationTree call = (MethodInvocationTree) path.getLeaf();
                    String name = nameOf(call.getMethodSelect());
                    rule(3, METHODS.containsKey(name), call, "is no method of the class");
                    called.add(name);
                    call.getArguments().forEach(argument -> holdsNoCall(argument));
                }
            });
            CALLS.put(method.getName().toString(), called);
        }
        for (MethodTree method : METHODS.values()) {
            int depth = depth(method.getName().toString(), 1);
            rule(8, depth <= METHODS.size(), method, "comes back to itself");
            rule(10, depth <= 6, method, "goes more than six deep");
        }
    }

    private static void holdsNoCall(ExpressionTree argument) {
        everywhere(argument, path -> {
            boolean isCall = path.getLeaf() instanceof MethodInvocationTree;
            rule(10, !isCall, argument, "is a call inside the arguments of another");
        });
    }

    /** The public method counts as the first; more methods than there are, one below the other, are a circle. */
    private static int depth(String method, int above) {
        int deepest = above;
        if (above <= METHODS.size()) {
            for (String called : CALLS.getOrDefault(method, Set.of())) {
                deepest = Math.max(deepest, depth(called, above + 1));
            }
        }
        return deepest;
    }

    private static void sizes() {
        int fields = 0;
        for (VariableTree field : FIELDS.values()) {
            fields += isStatic(field) ? 0 : 1;
        }
        rule(10, fields <= 40, theClass, "has more than forty fields");
        for (MethodTree method : METHODS.values()) {
            rule(10, method.getParameters().size() <= 7, method, "takes more than seven parameters");
            long first = lineOf(method);
            long last = unit.getLineMap().getLineNumber(positions.getEndPosition(unit, method));
            rule(10, last - first < 60, method, "is longer than sixty lines");
        }
    }
}
