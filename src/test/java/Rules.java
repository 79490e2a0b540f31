import com.sun.source.tree.ArrayTypeTree;
import com.sun.source.tree.AssignmentTree;
import com.sun.source.tree.BinaryTree;
import com.sun.source.tree.ClassTree;
import com.sun.source.tree.CompilationUnitTree;
import com.sun.source.tree.CompoundAssignmentTree;
import com.sun.source.tree.ExpressionStatementTree;
import com.sun.source.tree.ForLoopTree;
import com.sun.source.tree.IdentifierTree;
import com.sun.source.tree.LiteralTree;
import com.sun.source.tree.MemberSelectTree;
import com.sun.source.tree.MethodInvocationTree;
import com.sun.source.tree.MethodTree;
import com.sun.source.tree.NewArrayTree;
import com.sun.source.tree.ParenthesizedTree;
import com.sun.source.tree.PrimitiveTypeTree;
import com.sun.source.tree.Tree;
import com.sun.source.tree.Tree.Kind;
import com.sun.source.tree.TypeCastTree;
import com.sun.source.tree.UnaryTree;
import com.sun.source.tree.VariableTree;
import com.sun.source.util.JavacTask;
import com.sun.source.util.SourcePositions;
import com.sun.source.util.TreeScanner;
import com.sun.source.util.Trees;
import java.io.IOException;
import java.net.URI;
import java.util.ArrayList;
import java.util.EnumMap;
import java.util.EnumSet;
import java.util.HashSet;
import java.util.LinkedHashMap;
import java.util.LinkedHashSet;
import java.util.List;
import java.util.Map;
import java.util.Set;
import java.util.function.Consumer;
import java.util.function.Predicate;
import javax.lang.model.element.Modifier;
import javax.lang.model.type.TypeKind;
import javax.tools.JavaFileObject;
import javax.tools.SimpleJavaFileObject;
import javax.tools.ToolProvider;

/**
 * Finds what breaks LANGUAGE.md in a source, as far as its form shows it: not whether an index can be out
 * of range, a bound is far enough or two arrays are compared. Stricter than the rules where that is plainer:
 * arrays are made in fields' initialisers only, every loop is a for with a counter that it alone moves, and
 * nothing is divided.
 */
final class Rules {
    private static final Map<Kind, Integer> RULED_OUT = new EnumMap<>(Kind.class);
    private static final Set<TypeKind> NUMBERS = EnumSet.of(TypeKind.INT, TypeKind.LONG, TypeKind.SHORT,
        TypeKind.BYTE, TypeKind.CHAR, TypeKind.BOOLEAN);
    private static final Set<Kind> ORDERS = EnumSet.of(Kind.LESS_THAN, Kind.LESS_THAN_EQUAL, Kind.GREATER_THAN,
        Kind.GREATER_THAN_EQUAL);
    private static final Set<Kind> STEPS = EnumSet.of(Kind.POSTFIX_INCREMENT, Kind.POSTFIX_DECREMENT,
        Kind.PREFIX_INCREMENT, Kind.PREFIX_DECREMENT);

    static {
        ruleOut(1, Kind.CLASS, Kind.INTERFACE, Kind.ENUM, Kind.RECORD, Kind.ANNOTATION_TYPE);
        ruleOut(2, Kind.STRING_LITERAL, Kind.FLOAT_LITERAL, Kind.DOUBLE_LITERAL);
        ruleOut(4, Kind.NULL_LITERAL, Kind.NEW_CLASS);
        ruleOut(6, Kind.THROW, Kind.TRY, Kind.SYNCHRONIZED, Kind.ASSERT, Kind.INSTANCE_OF, Kind.LAMBDA_EXPRESSION,
            Kind.MEMBER_REFERENCE);
        ruleOut(7, Kind.DIVIDE, Kind.REMAINDER, Kind.DIVIDE_ASSIGNMENT, Kind.REMAINDER_ASSIGNMENT);
        ruleOut(8, Kind.WHILE_LOOP, Kind.DO_WHILE_LOOP, Kind.ENHANCED_FOR_LOOP);
    }

    private final CompilationUnitTree unit;
    private final SourcePositions positions;
    private final List<String> findings = new ArrayList<>();
    private final Map<String, Set<String>> calls = new LinkedHashMap<>();
    private final Set<String> constants = new HashSet<>();

    private Rules(CompilationUnitTree unit, SourcePositions positions) {
        this.unit = unit;
        this.positions = positions;
    }

    private static void ruleOut(int rule, Kind... kinds) {
        for (Kind kind : kinds) {
            RULED_OUT.put(kind, rule);
        }
    }

    /** Each finding begins with its rule, such as "rule 4:". */
    static List<String> findings(String source) throws IOException {
        JavaFileObject file = new SimpleJavaFileObject(URI.create("string:///AmbEvaluator.java"),
            JavaFileObject.Kind.SOURCE) {
            @Override
            public CharSequence getCharContent(boolean ignored) {
                return source;
            }
        };
        JavacTask task = (JavacTask) ToolProvider.getSystemJavaCompiler()
            .getTask(null, null, null, null, null, List.of(file));
        CompilationUnitTree unit = task.parse().iterator().next();
        Rules rules = new Rules(unit, Trees.instance(task).getSourcePositions());
        rules.examineUnit();
        return rules.findings;
    }

    private void keep(boolean kept, int rule, String what, Tree where) {
        if (!kept) {
            long line = lineOf(positions.getStartPosition(unit, where));
            findings.add("rule " + rule + ": " + what + ", line " + line);
        }
    }

    private long lineOf(long position) {
        return position < 0 ? 0 : unit.getLineMap().getLineNumber(position);
    }

    /** The tree and each one inside it. */
    private static void each(Tree tree, Consumer<Tree> action) {
        new TreeScanner<Void, Void>() {
            @Override
            public Void scan(Tree inner, Void nothing) {
                if (inner != null) {
                    action.accept(inner);
                }
                return super.scan(inner, nothing);
            }
        }.scan(tree, null);
    }

    private static boolean has(Tree tree, Predicate<Tree> passes) {
        boolean[] found = {false};
        each(tree, inner -> found[0] |= passes.test(inner));
        return found[0];
    }

    private void examineUnit() {
        keep(unit.getPackageName() == null, 1, "a package line", unit);
        keep(unit.getTypeDecls().size() == 1, 1, "not one class", unit);
        keep(unit.getImports().isEmpty(), 3, "an import", unit);
        for (Tree type : unit.getTypeDecls()) {
            keep(type.getKind() == Kind.CLASS, 1, "not a class", type);
            examineMembers(((ClassTree) type).getMembers());
        }
        for (String name : calls.keySet()) {
            followCalls(name, new LinkedHashSet<>());
        }
    }

    private void examineMembers(List<? extends Tree> members) {
        int fields = 0;
        for (Tree member : members) {
            if (member instanceof VariableTree) {
                fields += examineField((VariableTree) member) ? 1 : 0;
            } else if (member instanceof MethodTree) {
                String name = ((MethodTree) member).getName().toString();
                keep(calls.put(name, new LinkedHashSet<>()) == null, 1, "two methods with the name " + name, member);
            } else {
                keep(member.getKind() != Kind.BLOCK, 5, "an initialiser block", member);
                keep(!(member instanceof ClassTree), 1, "a nested class", member);
            }
        }
        keep(fields <= 40, 10, fields + " fields", unit);
        for (Tree member : members) {
            if (member instanceof MethodTree) {
                examineMethod((MethodTree) member);
            }
        }
    }

    /** Answers whether it is a field of the object. */
    private boolean examineField(VariableTree field) {
        Set<Modifier> modifiers = field.getModifiers().getFlags();
        boolean array = field.getType() instanceof ArrayTypeTree;
        Tree value = field.getInitializer();
        keepType(field.getType(), field);
        if (modifiers.contains(Modifier.STATIC)) {
            boolean constant = modifiers.contains(Modifier.FINAL) && !array && isConstant(value);
            keep(constant, 5, "a static field that is no constant", field);
            constants.add(field.getName().toString());
            return false;
        }
        boolean lasting = modifiers.contains(Modifier.FINAL) && value instanceof NewArrayTree;
        keep(!array || lasting, 4, "an array field that is not made once in its initialiser", field);
        if (value instanceof NewArrayTree) {
            NewArrayTree made = (NewArrayTree) value;
            boolean plain = made.getInitializers() == null && made.getDimensions().size() == 1;
            keep(plain && isConstant(made.getDimensions().get(0)), 4, "a length that is no constant", field);
        } else if (value != null) {
            examine(value, "");
        }
        return true;
    }

    private boolean isConstant(Tree value) {
        if (value instanceof BinaryTree) {
            BinaryTree both = (BinaryTree) value;
            return isConstant(both.getLeftOperand()) && isConstant(both.getRightOperand());
        }
        if (value instanceof ParenthesizedTree) {
            return isConstant(((ParenthesizedTree) value).getExpression());
        }
        if (value instanceof UnaryTree) {
            return isConstant(((UnaryTree) value).getExpression());
        }
        boolean known = value instanceof IdentifierTree && constants.contains(value.toString());
        return known || value instanceof LiteralTree;
    }

    private static boolean isNumber(Tree type) {
        return type instanceof PrimitiveTypeTree
            && NUMBERS.contains(((PrimitiveTypeTree) type).getPrimitiveTypeKind());
    }

    private void keepType(Tree type, Tree where) {
        Tree element = type instanceof ArrayTypeTree ? ((ArrayTypeTree) type).getType() : type;
        keep(isNumber(element), 2, "the type " + type, where);
    }

    private void examineMethod(MethodTree method) {
        Tree type = method.getReturnType();
        keep(!(type instanceof ArrayTypeTree), 4, "an array as an answer", method);
        if (type != null && !type.toString().equals("void")) {
            keepType(type, method);
        }
        for (VariableTree parameter : method.getParameters()) {
            keepType(parameter.getType(), parameter);
        }
        keep(!method.getModifiers().getFlags().contains(Modifier.SYNCHRONIZED), 6, "synchronized", method);
        keep(method.getParameters().size() <= 7, 10, "more than seven parameters", method);
        long first = lineOf(positions.getStartPosition(unit, method));
        long last = lineOf(positions.getEndPosition(unit, method));
        keep(last - first < 60, 10, "more than sixty lines", method);
        examine(method.getBody(), method.getName().toString());
    }

    private void examine(Tree body, String method) {
        each(body, inner -> {
            int rule = RULED_OUT.getOrDefault(inner.getKind(), 0);
            keep(rule == 0, rule, "the form " + inner.getKind(), inner);
            keep(!(inner instanceof NewArrayTree), 4, "an array made outside a field's initialiser", inner);
            if (inner instanceof MethodInvocationTree) {
                examineCall((MethodInvocationTree) inner, method);
            } else if (inner instanceof VariableTree) {
                Tree type = ((VariableTree) inner).getType();
                keep(isNumber(type), type instanceof ArrayTypeTree ? 4 : 2, "a local " + type, inner);
            } else if (inner instanceof MemberSelectTree) {
                keepName((MemberSelectTree) inner);
            } else if (inner instanceof TypeCastTree) {
                keep(isNumber(((TypeCastTree) inner).getType()), 6, "a cast of a reference", inner);
            } else if (inner instanceof ForLoopTree) {
                keep(isCounted((ForLoopTree) inner), 8, "a loop without a counter against a bound", inner);
            }
        });
    }

    private void examineCall(MethodInvocationTree call, String method) {
        String called = call.getMethodSelect().toString();
        keep(calls.containsKey(called), 3, "a call of " + called, call);
        calls.getOrDefault(method, new HashSet<>()).add(called);
        for (Tree argument : call.getArguments()) {
            boolean inside = has(argument, inner -> inner instanceof MethodInvocationTree);
            keep(!inside, 10, "a call inside the arguments of another", call);
        }
    }

    private void keepName(MemberSelectTree name) {
        boolean own = name.getExpression().toString().equals("this");
        keep(own || name.getIdentifier().contentEquals("length"), 3, "the name " + name, name);
    }

    private static boolean isCounted(ForLoopTree loop) {
        boolean one = loop.getInitializer().size() == 1 && loop.getUpdate().size() == 1;
        if (!one || !(loop.getInitializer().get(0) instanceof VariableTree)) {
            return false;
        }
        String counter = ((VariableTree) loop.getInitializer().get(0)).getName().toString();
        ExpressionStatementTree update = loop.getUpdate().get(0);
        boolean steps = STEPS.contains(update.getExpression().getKind())
            && changes(update.getExpression(), counter);
        return steps && isBound(loop.getCondition(), counter)
            && !has(loop.getStatement(), inner -> changes(inner, counter));
    }

    private static boolean isBound(Tree condition, String counter) {
        if (!(condition instanceof BinaryTree)) {
            return false;
        }
        BinaryTree both = (BinaryTree) condition;
        if (both.getKind() == Kind.CONDITIONAL_AND) {
            return isBound(both.getLeftOperand(), counter) || isBound(both.getRightOperand(), counter);
        }
        return ORDERS.contains(both.getKind()) && both.getLeftOperand().toString().equals(counter);
    }

    private static boolean changes(Tree tree, String variable) {
        Tree changed = null;
        if (STEPS.contains(tree.getKind())) {
            changed = ((UnaryTree) tree).getExpression();
        } else if (tree instanceof AssignmentTree) {
            changed = ((AssignmentTree) tree).getVariable();
        } else if (tree instanceof CompoundAssignmentTree) {
            changed = ((CompoundAssignmentTree) tree).getVariable();
        }
        return changed != null && changed.toString().equals(variable);
    }

    /** Walks every chain of calls that goes on from the chain with the method. */
    private void followCalls(String method, Set<String> chain) {
        if (!chain.add(method)) {
            keep(false, 8, "recursion through " + chain, unit);
            return;
        }
        if (chain.size() > 6) {
            keep(false, 10, "calls too deep: " + chain, unit);
            return;
        }
        for (String called : calls.getOrDefault(method, Set.of())) {
            followCalls(called, new LinkedHashSet<>(chain));
        }
    }
}
