import java.util.ArrayList;
import java.util.List;
import java.util.Random;

/** Made-up programs, always the same ones: the program's answers against those of Reference. */
final class ReferenceTest {
    private static final int PROGRAMS = 60000;
    private static final int SOUPS = 60000;
    private static final int[] NUMBERS = {0, 0, 1, 1, 2, 3, -1, 7, Integer.MAX_VALUE, Integer.MIN_VALUE};
    // More of the forms that work together, fewer that end a path at once.
    private static final int[] INNER = {2, 3, 4, 5, 6, 7, 8, 8, 8, 10, 11, 11, 11, 12, 12, 13, 13, 13, 14, 14, 15, 15};

    private static final Random made = new Random(20261115L);
    private static int solved = 0;
    private static int withClosures = 0;
    private static int withManyAllocs = 0;
    private static int withManyPaths = 0;

    private ReferenceTest() {
    }

    public static void main(String[] arguments) {
        for (int i = 0; i < PROGRAMS; i++) {
            List<Integer> tokens = new ArrayList<>();
            int size = 1 + made.nextInt(AmbEvaluator.MAX_TOKENS);
            make(tokens, size, new ArrayList<>());
            compare(toArray(tokens));
        }
        for (int i = 0; i < SOUPS; i++) {
            compare(soup());
        }
        for (int i = 0; i < PROGRAMS / 4; i++) {
            compare(selfApplied());
        }
        System.out.println("paths that succeed: " + solved + ", with a closure: " + withClosures
            + ", with 10 or more allocations: " + withManyAllocs + "; programs with 32 or more paths: "
            + withManyPaths);
        Checks.due("the made programs reach solutions", solved > 10000, true);
        Checks.due("the made programs reach closures", withClosures > 1000, true);
        Checks.due("the made programs reach many allocations", withManyAllocs > 100, true);
        Checks.due("the made programs reach many paths", withManyPaths > 100, true);
        Checks.finish();
    }

    private static int[] toArray(List<Integer> list) {
        int[] array = new int[list.size()];
        for (int i = 0; i < array.length; i++) {
            array[i] = list.get(i);
        }
        return array;
    }

    private static void add(List<Integer> tokens, int kind, int arg) {
        tokens.add(kind);
        tokens.add(arg);
    }

    /** Appends an expression of at most size tokens, mostly within the scope of its variables. */
    private static void make(List<Integer> tokens, int size, List<Integer> scope) {
        int kind = INNER[made.nextInt(INNER.length)];
        boolean open = kind == AmbEvaluator.SET && scope.isEmpty();
        if (size <= Checks.ARITY[kind] || open) {
            makeLeaf(tokens, scope);
            return;
        }
        int arg = 0;
        if (kind == AmbEvaluator.LET || kind == AmbEvaluator.LAM) {
            arg = made.nextInt(4) * (1 + made.nextInt(2));
        } else if (kind == AmbEvaluator.SET) {
            arg = scope.get(made.nextInt(scope.size()));
        }
        add(tokens, kind, arg);
        List<Integer> wider = new ArrayList<>(scope);
        wider.add(arg);
        int left = size - 1;
        for (int i = 0; i < Checks.ARITY[kind]; i++) {
            int later = Checks.ARITY[kind] - 1 - i;
            int share = later == 0 ? left : 1 + made.nextInt(left - later);
            boolean body = kind == AmbEvaluator.LAM || (kind == AmbEvaluator.LET && i == 1);
            int before = tokens.size();
            if (kind == AmbEvaluator.APP && i == 0 && share >= 2 && made.nextInt(2) == 0) {
                makeLambda(tokens, share, scope);
            } else {
                make(tokens, share, body ? wider : scope);
            }
            left -= (tokens.size() - before) / 2;
        }
    }

    private static void makeLambda(List<Integer> tokens, int size, List<Integer> scope) {
        int variable = made.nextInt(AmbEvaluator.MAX_TOKENS) % 8;
        add(tokens, AmbEvaluator.LAM, variable);
        List<Integer> wider = new ArrayList<>(scope);
        wider.add(variable);
        make(tokens, size - 1, wider);
    }

    private static void makeLeaf(List<Integer> tokens, List<Integer> scope) {
        int draw = made.nextInt(40);
        if (draw == 0) {
            add(tokens, AmbEvaluator.FAIL, 0);
        } else if (draw == 1 && made.nextInt(4) == 0) {
            add(tokens, AmbEvaluator.VAR, made.nextInt(8));
        } else if (draw < 25 && !scope.isEmpty()) {
            add(tokens, AmbEvaluator.VAR, scope.get(made.nextInt(scope.size())));
        } else {
            add(tokens, AmbEvaluator.NUM, NUMBERS[made.nextInt(NUMBERS.length)]);
        }
    }

    /** A closure that can call itself, with a made body, so that paths run into their limits. */
    private static int[] selfApplied() {
        List<Integer> tokens = new ArrayList<>();
        List<Integer> scope = new ArrayList<>(List.of(0, 1));
        add(tokens, AmbEvaluator.LET, 0);
        add(tokens, AmbEvaluator.NUM, 0);
        add(tokens, AmbEvaluator.SEQ, 0);
        add(tokens, AmbEvaluator.SET, 0);
        add(tokens, AmbEvaluator.LAM, 1);
        add(tokens, AmbEvaluator.IF, 0);
        add(tokens, AmbEvaluator.LT, 0);
        add(tokens, AmbEvaluator.VAR, 1);
        add(tokens, AmbEvaluator.NUM, 1);
        make(tokens, 6, scope);
        add(tokens, AmbEvaluator.ADD, 0);
        make(tokens, 5, scope);
        add(tokens, AmbEvaluator.APP, 0);
        add(tokens, AmbEvaluator.VAR, 0);
        add(tokens, AmbEvaluator.SUB, 0);
        add(tokens, AmbEvaluator.VAR, 1);
        add(tokens, AmbEvaluator.NUM, 1);
        add(tokens, AmbEvaluator.APP, 0);
        add(tokens, AmbEvaluator.VAR, 0);
        add(tokens, AmbEvaluator.NUM, made.nextInt(16));
        return toArray(tokens);
    }

    /** Tokens in no order at all: most of these do not compile. */
    private static int[] soup() {
        int[] tokens = new int[2 * made.nextInt(10)];
        for (int i = 0; i < tokens.length; i += 2) {
            tokens[i] = made.nextInt(3) == 0 ? made.nextInt(2) : made.nextInt(16);
            tokens[i + 1] = Checks.namesVariable(tokens[i]) ? made.nextInt(2) : made.nextInt(5);
        }
        return tokens;
    }

    private static String text(int[] tokens) {
        StringBuilder text = new StringBuilder();
        for (int i = 0; i < tokens.length; i += 2) {
            text.append(' ').append(Checks.NAMES[tokens[i]]).append(':').append(tokens[i + 1]);
        }
        return text.toString();
    }

    private static void compare(int[] tokens) {
        int maxChoices = made.nextInt(3) == 0 ? 1 + made.nextInt(6) : 6;
        int maxAlloc = made.nextInt(3) == 0 ? 1 + made.nextInt(16) : 16;
        String what = "limits " + maxChoices + ", " + maxAlloc + ":" + text(tokens);
        Reference reference = new Reference(tokens, maxChoices, maxAlloc);
        AmbEvaluator x = new AmbEvaluator(maxChoices, maxAlloc);
        for (int i = 0; i < tokens.length; i += 2) {
            Checks.due(what + ", token", x.token(tokens[i], tokens[i + 1]), true);
        }
        int answer = reference.compileAnswer();
        Checks.due(what + ", compile", x.compile(), answer);
        if (answer != AmbEvaluator.OK) {
            Checks.dueCounts(what, x, AmbEvaluator.EDIT, 0, 0);
            return;
        }
        List<Reference.Outcome> outcomes = reference.outcomes();
        withManyPaths += outcomes.size() >= 32 ? 1 : 0;
        int before = made.nextInt(4);
        for (int i = 0; i < before; i++) {
            x.next();
        }
        if (before > 0) {
            Checks.due(what + ", restart", x.restart(), true);
        }
        dueSearch(what, x, outcomes);
    }

    private static void dueSearch(String what, AmbEvaluator x, List<Reference.Outcome> outcomes) {
        Checks.dueCounts(what, x, AmbEvaluator.READY, 0, 0);
        Checks.due(what + ", kind before next", x.kind(), AmbEvaluator.KIND_NONE);
        int solutions = 0;
        int failures = 0;
        for (Reference.Outcome outcome : outcomes) {
            if (outcome.value == null) {
                failures++;
                continue;
            }
            solutions++;
            solved++;
            withManyAllocs += outcome.allocs >= 10 ? 1 : 0;
            Checks.due(what + ", next", x.next(), AmbEvaluator.SOLUTION);
            Checks.dueCounts(what, x, AmbEvaluator.READY, solutions, failures);
            dueOutcome(what, x, outcome);
        }
        for (int i = 0; i < 2; i++) {
            Checks.due(what + ", next at the end", x.next(), AmbEvaluator.EXHAUSTED);
            Checks.dueCounts(what, x, AmbEvaluator.DONE, solutions, failures);
        }
    }

    private static void dueOutcome(String what, AmbEvaluator x, Reference.Outcome outcome) {
        if (outcome.value instanceof Reference.Closure) {
            withClosures++;
            int position = ((Reference.Closure) outcome.value).position;
            Checks.dueLast(what, x, AmbEvaluator.KIND_CLOSURE, position, outcome.bits, outcome.allocs);
        } else {
            Checks.dueLast(what, x, AmbEvaluator.KIND_INT, (Integer) outcome.value, outcome.bits, outcome.allocs);
        }
    }
}
