import java.util.List;
import java.util.Random;

/** Made-up programs, always the same ones: the program's answers against those of Reference. */
final class ReferenceTest {
    private static final int PROGRAMS = 60000;
    private static final int SOUPS = 60000;

    private static final Random RANDOM = new Random(20261115L);
    private static final MadeUp MADE_UP = new MadeUp(RANDOM);
    private static int solved = 0;
    private static int withClosures = 0;
    private static int withManyAllocs = 0;
    private static int withManyPaths = 0;

    private ReferenceTest() {
    }

    public static void main(String[] arguments) {
        for (int i = 0; i < PROGRAMS; i++) {
            compare(MADE_UP.program(AmbEvaluator.MAX_TOKENS));
        }
        for (int i = 0; i < SOUPS; i++) {
            compare(MADE_UP.soup());
        }
        for (int i = 0; i < PROGRAMS / 4; i++) {
            compare(MADE_UP.selfApplied());
        }
        System.out.println("paths that succeed: " + solved + ", with a closure: " + withClosures
            + ", with 10 or more allocations: " + withManyAllocs + "; programs with 32 or more paths: "
            + withManyPaths);
        Checks.due("the made programs reach solutions", solved > 10000, true);
        Checks.due("the made programs reach closures", withClosures > 1000, true);
        Checks.due("the made programs reach many allocations", withManyAllocs > 100, true);
        Checks.due("the made programs reach many paths", withManyPaths > 100, true);
        Checks.finish();
    }

    private static void compare(int[] tokens) {
        int maxChoices = RANDOM.nextInt(3) == 0 ? 1 + RANDOM.nextInt(6) : 6;
        int maxAlloc = RANDOM.nextInt(3) == 0 ? 1 + RANDOM.nextInt(16) : 16;
        String what = "limits " + maxChoices + ", " + maxAlloc + ":" + MadeUp.text(tokens);
        Reference reference = new Reference(tokens, maxChoices, maxAlloc);
        AmbEvaluator x = new AmbEvaluator(maxChoices, maxAlloc);
        for (int i = 0; i < tokens.length; i += 2) {
            Checks.due(what + ", token", x.token(tokens[i], tokens[i + 1]), true);
        }
        int answer = reference.compileAnswer();
        Checks.due(what + ", compile", x.compile(), answer);
        if (answer != AmbEvaluator.OK) {
            Checks.dueCounts(what, x, AmbEvaluator.EDIT, 0, 0);
            return;
        }
        List<Reference.Outcome> outcomes = reference.outcomes();
        withManyPaths += outcomes.size() >= 32 ? 1 : 0;
        int before = RANDOM.nextInt(4);
        for (int i = 0; i < before; i++) {
            x.next();
        }
        if (before > 0) {
            Checks.due(what + ", restart", x.restart(), true);
        }
        dueSearch(what, x, outcomes);
    }

    private static void dueSearch(String what, AmbEvaluator x, List<Reference.Outcome> outcomes) {
        Checks.dueCounts(what, x, AmbEvaluator.READY, 0, 0);
        Checks.due(what + ", kind before next", x.kind(), AmbEvaluator.KIND_NONE);
        int solutions = 0;
        int failures = 0;
        for (Reference.Outcome outcome : outcomes) {
            if (outcome.value == null) {
                failures++;
                continue;
            }
            solutions++;
            solved++;
            withManyAllocs += outcome.allocs >= 10 ? 1 : 0;
            Checks.due(what + ", next", x.next(), AmbEvaluator.SOLUTION);
            Checks.dueCounts(what, x, AmbEvaluator.READY, solutions, failures);
            dueOutcome(what, x, outcome);
        }
        for (int i = 0; i < 2; i++) {
            Checks.due(what + ", next at the end", x.next(), AmbEvaluator.EXHAUSTED);
            Checks.dueCounts(what, x, AmbEvaluator.DONE, solutions, failures);
        }
    }

    private static void dueOutcome(String what, AmbEvaluator x, Reference.Outcome outcome) {
        if (outcome.value instanceof Reference.Closure) {
            withClosures++;
            int position = ((Reference.Closure) outcome.value).position;
            Checks.dueLast(what, x, AmbEvaluator.KIND_CLOSURE, position, outcome.bits, outcome.allocs);
        } else {
            Checks.dueLast(what, x, AmbEvaluator.KIND_INT, (Integer) outcome.value, outcome.bits, outcome.allocs);
        }
    }
}
