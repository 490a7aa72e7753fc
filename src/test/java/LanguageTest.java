import com.sun.source.tree.ArrayTypeTree;
import com.sun.source.tree.AssignmentTree;
import com.sun.source.tree.BinaryTree;
import com.sun.source.tree.BlockTree;
import com.sun.source.tree.ClassTree;
import com.sun.source.tree.CompoundAssignmentTree;
import com.sun.source.tree.DoWhileLoopTree;
import com.sun.source.tree.ExpressionStatementTree;
import com.sun.source.tree.ExpressionTree;
import com.sun.source.tree.ForLoopTree;
import com.sun.source.tree.IdentifierTree;
import com.sun.source.tree.LiteralTree;
import com.sun.source.tree.MemberSelectTree;
import com.sun.source.tree.MethodInvocationTree;
import com.sun.source.tree.MethodTree;
import com.sun.source.tree.NewArrayTree;
import com.sun.source.tree.ParenthesizedTree;
import com.sun.source.tree.PrimitiveTypeTree;
import com.sun.source.tree.StatementTree;
import com.sun.source.tree.Tree;
import com.sun.source.tree.Tree.Kind;
import com.sun.source.tree.TypeCastTree;
import com.sun.source.tree.UnaryTree;
import com.sun.source.tree.VariableTree;
import com.sun.source.tree.WhileLoopTree;
import java.io.IOException;
import java.nio.file.Path;
import java.util.ArrayList;
import java.util.Collection;
import java.util.EnumSet;
import java.util.HashSet;
import java.util.List;
import java.util.Map;
import java.util.Set;
import java.util.TreeMap;
import java.util.TreeSet;
import java.util.function.Predicate;
import java.util.stream.Collectors;
import javax.lang.model.element.Modifier;
import javax.lang.model.type.TypeKind;

/** The rules of LANGUAGE.md that the text of the class shows, by their numbers. */
final class LanguageTest {
    private static final Path FILE = Path.of("src/main/java/MixedCritKernel.java");
    private static final Set<Kind> OUTSIDE = EnumSet.of(
        Kind.THROW, Kind.TRY, Kind.SYNCHRONIZED, Kind.ASSERT, Kind.INSTANCE_OF, Kind.LAMBDA_EXPRESSION,
        Kind.MEMBER_REFERENCE, Kind.NEW_CLASS, Kind.STRING_LITERAL, Kind.NULL_LITERAL, Kind.FLOAT_LITERAL,
        Kind.DOUBLE_LITERAL, Kind.INTERFACE, Kind.ENUM, Kind.RECORD, Kind.ANNOTATION_TYPE, Kind.ANNOTATION,
        Kind.PARAMETERIZED_TYPE);
    private static final Set<Kind> ORDER = EnumSet.of(
        Kind.LESS_THAN, Kind.LESS_THAN_EQUAL, Kind.GREATER_THAN, Kind.GREATER_THAN_EQUAL);
    private static final Set<Kind> STEPS = EnumSet.of(
        Kind.PREFIX_INCREMENT, Kind.POSTFIX_INCREMENT, Kind.PREFIX_DECREMENT, Kind.POSTFIX_DECREMENT);

    private final Source source;
    private final ClassTree kernel;
    private final List<VariableTree> fields = new ArrayList<>();
    private final List<MethodTree> methods = new ArrayList<>();
    private final Map<String, Set<String>> calls = new TreeMap<>();
    private final Set<String> arrays = new HashSet<>();

    private LanguageTest(Source source) {
        this.source = source;
        kernel = Source.nodes(source.unit, ClassTree.class).get(0);
        for (Tree member : kernel.getMembers()) {
            if (member instanceof VariableTree field) {
                fields.add(field);
            } else if (member instanceof MethodTree method) {
                methods.add(method);
                calls.computeIfAbsent(nameOf(method), name -> new TreeSet<>()).addAll(callsIn(method));
            }
        }
        for (VariableTree variable : Source.nodes(kernel, VariableTree.class)) {
            if (variable.getType() instanceof ArrayTypeTree) {
                arrays.add(variable.getName().toString());
            }
        }
    }

    public static void main(String[] args) throws IOException {
        LanguageTest test = new LanguageTest(Source.parse(FILE));
        test.oneClass();
        test.typesAreNumbersAndArrays();
        test.noLibrary();
        test.arraysAreMadeOnce();
        test.arraysStayWhereTheyAre();
        test.staticFieldsAreConstants();
        test.nothingFromOutside();
        test.noRecursion();
        test.loopsEnd();
        test.callsAndSizes();
        Checks.finish();
    }

    private void oneClass() {
        Checks.due("rule 1: a package line", source.unit.getPackageName() != null, false);
        Checks.due("rule 1: classes", Source.nodes(source.unit, ClassTree.class).size(), 1);
        Checks.same("rule 1: the class is", kernel.getModifiers().getFlags() + " " + kernel.getSimpleName(),
            "[public, final] MixedCritKernel");
        Checks.due("rule 1: a class above it", kernel.getExtendsClause() == null, true);
        Checks.due("rule 1: interfaces", kernel.getImplementsClause().size(), 0);
        none("rule 1: a private method with a public name", methods, method -> is(method, Modifier.PRIVATE)
            && methods.stream().anyMatch(other -> !is(other, Modifier.PRIVATE)
                && nameOf(other).equals(nameOf(method))));
    }

    private void typesAreNumbersAndArrays() {
        none("rule 2: a variable of another type", Source.nodes(kernel, VariableTree.class),
            variable -> !isNumber(variable.getType()) && !isNumberArray(variable.getType()));
        none("rule 2: a method that answers another type", methods,
            method -> method.getReturnType() != null && !(method.getReturnType() instanceof PrimitiveTypeTree));
        none("rule 2: float or double", Source.nodes(kernel, PrimitiveTypeTree.class),
            type -> type.getPrimitiveTypeKind() == TypeKind.FLOAT || type.getPrimitiveTypeKind() == TypeKind.DOUBLE);
    }

    private void noLibrary() {
        Checks.due("rule 3: imports", source.unit.getImports().size(), 0);
        none("rule 3: a name from elsewhere", Source.nodes(kernel, MemberSelectTree.class),
            select -> !select.getExpression().toString().equals("this")
                && !(select.getIdentifier().contentEquals("length") && isArrayName(select.getExpression())));
        none("rule 3: a call of something else", Source.nodes(kernel, MethodInvocationTree.class),
            call -> !calls.containsKey(calledBy(call)));
    }

    private void arraysAreMadeOnce() {
        List<NewArrayTree> made = new ArrayList<>();
        for (VariableTree field : fields) {
            if (field.getInitializer() instanceof NewArrayTree array) {
                made.add(array);
            }
        }
        made.addAll(madeInConstructor());
        none("rule 4: an array made elsewhere", Source.nodes(kernel, NewArrayTree.class),
            array -> !made.contains(array));
        none("rule 4: an array of another length than a constant of 1 or more", made,
            array -> array.getDimensions().size() != 1 || array.getInitializers() != null
                || lengthOf(array.getDimensions().get(0)) < 1);
        for (String name : arrays) {
            long times = fields.stream().filter(field -> field.getName().contentEquals(name)
                && field.getInitializer() != null).count();
            times += Source.nodes(kernel, AssignmentTree.class).stream()
                .filter(assignment -> assignment.getExpression() instanceof NewArrayTree
                    && lastName(assignment.getVariable()).equals(name)).count();
            Checks.due("rule 4: array " + name + " is made at most once", times <= 1, true);
        }
    }

    /** Those made by a statement of the constructor itself, before it calls a method that is not static. */
    private List<NewArrayTree> madeInConstructor() {
        List<NewArrayTree> made = new ArrayList<>();
        for (MethodTree constructor : methods) {
            if (constructor.getReturnType() == null) {
                for (StatementTree statement : constructor.getBody().getStatements()) {
                    if (Source.nodes(statement, MethodInvocationTree.class).stream().anyMatch(this::isOfObject)) {
                        break;
                    }
                    if (statement instanceof ExpressionStatementTree expression
                        && expression.getExpression() instanceof AssignmentTree assignment
                        && assignment.getExpression() instanceof NewArrayTree array) {
                        made.add(array);
                    }
                }
            }
        }
        return made;
    }

    private void arraysStayWhereTheyAre() {
        none("rule 4: a method that answers an array", methods,
            method -> method.getReturnType() instanceof ArrayTypeTree);
        none("rule 4: arrays compared", Source.nodes(kernel, BinaryTree.class),
            compared -> (compared.getKind() == Kind.EQUAL_TO || compared.getKind() == Kind.NOT_EQUAL_TO)
                && (isArrayName(compared.getLeftOperand()) || isArrayName(compared.getRightOperand())));
        for (MethodTree method : methods) {
            boolean constructor = method.getReturnType() == null;
            none("rule 4: an array's name assigned to", Source.nodes(method, AssignmentTree.class),
                assignment -> isArrayName(assignment.getVariable())
                    && !(constructor && assignment.getExpression() instanceof NewArrayTree));
            none("rule 4: the constructor hands on an array", Source.nodes(method, MethodInvocationTree.class),
                call -> constructor && call.getArguments().stream().anyMatch(this::isArrayName));
        }
    }

    private void staticFieldsAreConstants() {
        none("rule 5: a static field that is no constant of int or long", fields,
            field -> is(field, Modifier.STATIC) && !isConstant(field));
        none("rule 5: a static initialiser", Source.nodes(kernel, BlockTree.class), BlockTree::isStatic);
    }

    private void nothingFromOutside() {
        none("rules 1, 2, 4 and 6: outside the part of Java that is left", Source.nodes(kernel, Tree.class),
            tree -> OUTSIDE.contains(tree.getKind()));
        none("rule 6: throws", methods, method -> !method.getThrows().isEmpty() || is(method, Modifier.SYNCHRONIZED));
        none("rule 6: a cast of a reference", Source.nodes(kernel, TypeCastTree.class),
            cast -> !isNumber(cast.getType()));
    }

    private void noRecursion() {
        for (String name : calls.keySet()) {
            int depth = depth(name, new ArrayList<>());
            Checks.due("rules 8 and 10: depth of the calls from " + name + " is at most six, now " + depth,
                depth <= 6, true);
        }
    }

    /** A call that comes back to a method on the way counts as endlessly deep. */
    private int depth(String name, List<String> way) {
        if (way.contains(name)) {
            return 1000;
        }
        way.add(name);
        int deepest = 0;
        for (String next : calls.getOrDefault(name, Set.of())) {
            deepest = Math.max(deepest, depth(next, way));
        }
        way.remove(name);
        return deepest + 1;
    }

    private void loopsEnd() {
        none("rule 8: a for without a counter against a bound", Source.nodes(kernel, ForLoopTree.class),
            loop -> !counts(loop.getCondition(), loop.getUpdate(), loop.getStatement(), 0));
        none("rule 8: a while without a counter against a bound", Source.nodes(kernel, WhileLoopTree.class),
            loop -> !counts(loop.getCondition(), List.of(loop.getStatement()), loop.getStatement(), 1));
        none("rule 8: a do without a counter against a bound", Source.nodes(kernel, DoWhileLoopTree.class),
            loop -> !counts(loop.getCondition(), List.of(loop.getStatement()), loop.getStatement(), 1));
    }

    /** Whether a name in the condition is stepped there, and set so many times in the body. */
    private static boolean counts(ExpressionTree condition, List<? extends Tree> stepped, Tree body, int times) {
        for (BinaryTree compared : joinedByAnd(condition)) {
            for (ExpressionTree side : List.of(compared.getLeftOperand(), compared.getRightOperand())) {
                boolean steps = stepped.stream().anyMatch(tree -> !stepsOf(side, tree).isEmpty());
                if (ORDER.contains(compared.getKind()) && steps && setsOf(side, body) == times) {
                    return true;
                }
            }
        }
        return false;
    }

    private static List<BinaryTree> joinedByAnd(ExpressionTree condition) {
        List<BinaryTree> found = new ArrayList<>();
        if (condition instanceof ParenthesizedTree inner) {
            found.addAll(joinedByAnd(inner.getExpression()));
        } else if (condition instanceof BinaryTree both && both.getKind() == Kind.CONDITIONAL_AND) {
            found.addAll(joinedByAnd(both.getLeftOperand()));
            found.addAll(joinedByAnd(both.getRightOperand()));
        } else if (condition instanceof BinaryTree one) {
            found.add(one);
        }
        return found;
    }

    private static List<Tree> stepsOf(ExpressionTree name, Tree tree) {
        List<Tree> found = new ArrayList<>();
        for (UnaryTree step : Source.nodes(tree, UnaryTree.class)) {
            if (STEPS.contains(step.getKind()) && isSameName(step.getExpression(), name)) {
                found.add(step);
            }
        }
        for (CompoundAssignmentTree step : Source.nodes(tree, CompoundAssignmentTree.class)) {
            if (isSameName(step.getVariable(), name)) {
                found.add(step);
            }
        }
        return found;
    }

    private static int setsOf(ExpressionTree name, Tree tree) {
        long assigned = Source.nodes(tree, AssignmentTree.class).stream()
            .filter(assignment -> isSameName(assignment.getVariable(), name)).count();
        return stepsOf(name, tree).size() + (int) assigned;
    }

    private static boolean isSameName(ExpressionTree one, ExpressionTree other) {
        return other instanceof IdentifierTree && one.toString().equals(other.toString());
    }

    private void callsAndSizes() {
        none("rule 10: more than seven parameters", methods, method -> method.getParameters().size() > 7);
        none("rule 10: a call inside a call's arguments", Source.nodes(kernel, MethodInvocationTree.class),
            call -> call.getArguments().stream()
                .anyMatch(argument -> !Source.nodes(argument, MethodInvocationTree.class).isEmpty()));
        none("rule 10: more than sixty lines", methods, method -> source.lines(method) > 60);
        long kept = fields.stream().filter(field -> !is(field, Modifier.STATIC)).count();
        Checks.due("rule 10: at most forty fields, now " + kept, kept <= 40, true);
    }

    private <T extends Tree> void none(String what, Collection<T> trees, Predicate<T> isWrong) {
        Checks.same(what, trees.stream().filter(isWrong)
            .map(tree -> "line " + source.line(tree)).collect(Collectors.joining(", ")), "");
    }

    private static boolean isNumber(Tree type) {
        return type instanceof PrimitiveTypeTree number && number.getPrimitiveTypeKind() != TypeKind.VOID;
    }

    private static boolean isNumberArray(Tree type) {
        return type instanceof ArrayTypeTree array && isNumber(array.getType());
    }

    private boolean isArrayName(ExpressionTree expression) {
        return arrays.contains(lastName(expression));
    }

    private static String lastName(ExpressionTree expression) {
        return expression.toString().replaceFirst("^this\\.", "");
    }

    private boolean isConstant(VariableTree field) {
        boolean whole = field.getType().toString().equals("int") || field.getType().toString().equals("long");
        return whole && is(field, Modifier.FINAL) && field.getInitializer() != null
            && Source.nodes(field.getInitializer(), MethodInvocationTree.class).isEmpty();
    }

    /** A length that is not made of literals and constants counts as 0. */
    private int lengthOf(ExpressionTree length) {
        if (length instanceof LiteralTree literal && literal.getValue() instanceof Integer value) {
            return value;
        }
        if (length instanceof BinaryTree product && product.getKind() == Kind.MULTIPLY) {
            return lengthOf(product.getLeftOperand()) * lengthOf(product.getRightOperand());
        }
        for (VariableTree field : fields) {
            if (is(field, Modifier.STATIC) && length.toString().equals(field.getName().toString())) {
                return lengthOf(field.getInitializer());
            }
        }
        return 0;
    }

    private boolean isOfObject(MethodInvocationTree call) {
        return methods.stream()
            .anyMatch(method -> nameOf(method).equals(calledBy(call)) && !is(method, Modifier.STATIC));
    }

    private static Set<String> callsIn(MethodTree method) {
        return Source.nodes(method, MethodInvocationTree.class).stream()
            .map(LanguageTest::calledBy).collect(Collectors.toSet());
    }

    private static String calledBy(MethodInvocationTree call) {
        return lastName(call.getMethodSelect());
    }

    private static String nameOf(MethodTree method) {
        return method.getName().toString();
    }

    private static boolean is(MethodTree method, Modifier modifier) {
        return method.getModifiers().getFlags().contains(modifier);
    }

    private static boolean is(VariableTree field, Modifier modifier) {
        return field.getModifiers().getFlags().contains(modifier);
    }
}
