import java.util.ArrayList;
import java.util.Collections;
import java.util.HashMap;
import java.util.List;
import java.util.Map;

/**
 * The document's language, written down a second time as plainly as recursion, maps and exceptions
 * allow, so that the program's answers can be held against it.
 */
final class Reference {
    /** One path: value is null if it fails. */
    static final class Outcome {
        final String bits;
        final Object value;
        final int allocs;

        Outcome(String bits, Object value, int allocs) {
            this.bits = bits;
            this.value = value;
            this.allocs = allocs;
        }
    }

    static final class Closure {
        final int position;
        final Node lambda;
        final Map<Integer, Object[]> environment;

        Closure(Node lambda, Map<Integer, Object[]> environment) {
            this.position = lambda.position;
            this.lambda = lambda;
            this.environment = environment;
        }
    }

    private static final class Node {
        int position;
        int kind;
        int arg;
        final List<Node> operands = new ArrayList<>();
    }

    private static final class PathFails extends RuntimeException {
        private static final long serialVersionUID = 1L;
    }

    private static final class VectorTooShort extends RuntimeException {
        private static final long serialVersionUID = 1L;
    }

    private final int[] tokens;
    private final int maxChoices;
    private final int maxAlloc;
    private int reader;
    private String bits;
    private int choices;
    private int allocs;

    /** tokens: kind, arg, kind, arg, ... */
    Reference(int[] tokens, int maxChoices, int maxAlloc) {
        this.tokens = tokens;
        this.maxChoices = maxChoices;
        this.maxAlloc = maxAlloc;
    }

    int compileAnswer() {
        if (tokens.length == 0) {
            return AmbEvaluator.ERR_EMPTY;
        }
        reader = 0;
        Node program = read();
        if (program == null) {
            return AmbEvaluator.ERR_INCOMPLETE;
        }
        if (reader < tokens.length / 2) {
            return AmbEvaluator.ERR_EXTRA;
        }
        return bound(program, Collections.emptyList()) ? AmbEvaluator.OK : AmbEvaluator.ERR_UNBOUND;
    }

    /** All paths in search order. */
    List<Outcome> outcomes() {
        reader = 0;
        Node program = read();
        List<Outcome> all = new ArrayList<>();
        explore(program, "", all);
        return all;
    }

    private void explore(Node program, String vector, List<Outcome> all) {
        bits = vector;
        choices = 0;
        allocs = 0;
        try {
            Object value = evaluate(program, Collections.emptyMap());
            all.add(new Outcome(vector, value, allocs));
        } catch (PathFails failing) {
            all.add(new Outcome(vector, null, allocs));
        } catch (VectorTooShort more) {
            explore(program, vector + "0", all);
            explore(program, vector + "1", all);
        }
    }

    private Node read() {
        if (reader >= tokens.length / 2) {
            return null;
        }
        Node node = new Node();
        node.position = reader;
        node.kind = tokens[2 * reader];
        node.arg = tokens[2 * reader + 1];
        reader++;
        for (int i = 0; i < Checks.ARITY[node.kind]; i++) {
            Node operand = read();
            if (operand == null) {
                return null;
            }
            node.operands.add(operand);
        }
        return node;
    }

    private static boolean bound(Node node, List<Integer> scope) {
        if ((node.kind == AmbEvaluator.VAR || node.kind == AmbEvaluator.SET) && !scope.contains(node.arg)) {
            return false;
        }
        List<Integer> wider = new ArrayList<>(scope);
        wider.add(node.arg);
        for (int i = 0; i < node.operands.size(); i++) {
            boolean body = node.kind == AmbEvaluator.LAM || (node.kind == AmbEvaluator.LET && i == 1);
            if (!bound(node.operands.get(i), body ? wider : scope)) {
                return false;
            }
        }
        return true;
    }

    private void allocate() {
        if (allocs == maxAlloc) {
            throw new PathFails();
        }
        allocs++;
    }

    private static Map<Integer, Object[]> extend(Map<Integer, Object[]> environment, int variable, Object value) {
        Map<Integer, Object[]> wider = new HashMap<>(environment);
        wider.put(variable, new Object[] {value});
        return wider;
    }

    private static int number(Object value) {
        if (!(value instanceof Integer)) {
            throw new PathFails();
        }
        return (Integer) value;
    }

    private Object evaluate(Node node, Map<Integer, Object[]> environment) {
        List<Node> operands = node.operands;
        switch (node.kind) {
            case AmbEvaluator.NUM:
                return node.arg;
            case AmbEvaluator.VAR:
                return environment.get(node.arg)[0];
            case AmbEvaluator.FAIL:
                throw new PathFails();
            case AmbEvaluator.IF:
                int condition = number(evaluate(operands.get(0), environment));
                return evaluate(operands.get(condition != 0 ? 1 : 2), environment);
            case AmbEvaluator.REQ:
                if (number(evaluate(operands.get(0), environment)) == 0) {
                    throw new PathFails();
                }
                return evaluate(operands.get(1), environment);
            case AmbEvaluator.AMB:
                return evaluate(operands.get(choice()), environment);
            case AmbEvaluator.LET:
                Object bound = evaluate(operands.get(0), environment);
                allocate();
                return evaluate(operands.get(1), extend(environment, node.arg, bound));
            case AmbEvaluator.LAM:
                allocate();
                return new Closure(node, environment);
            case AmbEvaluator.SET:
                Object stored = evaluate(operands.get(0), environment);
                environment.get(node.arg)[0] = stored;
                return stored;
            case AmbEvaluator.SEQ:
                evaluate(operands.get(0), environment);
                return evaluate(operands.get(1), environment);
            default:
                Object a = evaluate(operands.get(0), environment);
                Object b = evaluate(operands.get(1), environment);
                return node.kind == AmbEvaluator.APP ? apply(a, b) : calculate(node.kind, number(a), number(b));
        }
    }

    private int choice() {
        if (choices == maxChoices) {
            throw new PathFails();
        }
        if (choices == bits.length()) {
            throw new VectorTooShort();
        }
        return bits.charAt(choices++) - '0';
    }

    private Object apply(Object function, Object argument) {
        if (!(function instanceof Closure)) {
            throw new PathFails();
        }
        allocate();
        Closure closure = (Closure) function;
        return evaluate(closure.lambda.operands.get(0),
            extend(closure.environment, closure.lambda.arg, argument));
    }

    private static int calculate(int kind, int a, int b) {
        switch (kind) {
            case AmbEvaluator.ADD:
                return a + b;
            case AmbEvaluator.SUB:
                return a - b;
            case AmbEvaluator.MUL:
                return a * b;
            case AmbEvaluator.LT:
                return a < b ? 1 : 0;
            default:
                return a == b ? 1 : 0;
        }
    }
}
