import java.util.Random;

/** Made-up runs of calls in any order, always the same ones, each on one object against Model. */
final class CallsTest {
    private static final int RUNS = 6000;
    private static final int STEPS = 80;
    // A run is long to read: a few wrong ones tell as much as all of them.
    private static final int ENOUGH = 10;
    private static final int[] LIMITS = {Checks.LEAST, -1, 0, 1, 2, 3, 5, 6, 7, 15, 16, 17, Checks.MOST};
    private static final int[] NUMBERS = {Checks.LEAST, -65536, -2, -1, 0, 1, 2, 3, 4, 5, 6, 7, 8, 15, 16, 17, 31, 32,
        256, Checks.MOST};

    private static final Random RANDOM = new Random(20261116L);
    private static final MadeUp MADE_UP = new MadeUp(RANDOM);
    private static final int[] compiles = new int[6];
    private static final int[] nexts = new int[3];
    private static int restarts = 0;

    private final AmbEvaluator x;
    private final Model model;
    private final StringBuilder calls = new StringBuilder();
    private boolean right = true;

    private CallsTest(int maxChoices, int maxAlloc) {
        x = new AmbEvaluator(maxChoices, maxAlloc);
        model = new Model(maxChoices, maxAlloc);
        calls.append("new(").append(maxChoices).append(", ").append(maxAlloc).append(')');
    }

    public static void main(String[] arguments) {
        int wrongRuns = 0;
        for (int run = 0; run < RUNS && wrongRuns < ENOUGH; run++) {
            CallsTest test = new CallsTest(any(LIMITS), any(LIMITS));
            test.run();
            wrongRuns += test.right ? 0 : 1;
        }
        if (wrongRuns == 0) {
            dueReached();
        }
        Checks.finish();
    }

    private static void dueReached() {
        for (int answer = AmbEvaluator.REFUSED; answer <= AmbEvaluator.ERR_UNBOUND; answer++) {
            Checks.due("the runs reach the answer " + answer + " of compile", compiles[answer + 1] > 500, true);
        }
        for (int answer = AmbEvaluator.REFUSED; answer <= AmbEvaluator.SOLUTION; answer++) {
            Checks.due("the runs reach the answer " + answer + " of next", nexts[answer + 1] > 5000, true);
        }
        Checks.due("the runs reach restarts", restarts > 5000, true);
    }

    private static int any(int[] numbers) {
        return numbers[RANDOM.nextInt(numbers.length)];
    }

    private void run() {
        for (int step = 0; step < STEPS && right; step++) {
            int draw = RANDOM.nextInt(100);
            if (draw < 12) {
                program();
            } else if (draw < 20) {
                token(RANDOM.nextInt(20) - 2, any(NUMBERS));
            } else if (draw < 40) {
                compile();
            } else if (draw < 85) {
                next();
            } else if (draw < 93) {
                restart();
            } else {
                reset();
            }
            queries();
        }
    }

    /** Tells the whole run at its first wrong answer, so that it can be made again by hand. */
    private void due(String call, long got, long want) {
        if (right) {
            right = got == want;
            Checks.due(right ? call : calls + ", then " + call, got, want);
        }
    }

    private void dueAt(String call, int i, int got, int want) {
        due(got == want ? call : call + "(" + i + ")", got, want);
    }

    private void due(String call, boolean got, boolean want) {
        due(call, got ? 1 : 0, want ? 1 : 0);
    }

    /** Most often after a reset, else behind the tokens that are held. */
    private void program() {
        if (RANDOM.nextInt(4) > 0) {
            reset();
        }
        int draw = RANDOM.nextInt(6);
        int[] tokens = draw == 0 ? MADE_UP.soup() : draw == 1 ? MADE_UP.selfApplied() : MADE_UP.program(20);
        for (int i = 0; i < tokens.length; i += 2) {
            token(tokens[i], tokens[i + 1]);
        }
        if (RANDOM.nextInt(4) > 0) {
            compile();
        }
    }

    private void reset() {
        calls.append(" reset()");
        x.reset();
        model.reset();
    }

    private void token(int kind, int arg) {
        calls.append(" token(").append(kind).append(", ").append(arg).append(')');
        due("token", x.token(kind, arg), model.token(kind, arg));
    }

    private void compile() {
        calls.append(" compile()");
        int want = model.compile();
        compiles[want + 1]++;
        due("compile", x.compile(), want);
    }

    private void next() {
        calls.append(" next()");
        int want = model.next();
        nexts[want + 1]++;
        due("next", x.next(), want);
    }

    private void restart() {
        calls.append(" restart()");
        boolean want = model.restart();
        restarts += want ? 1 : 0;
        due("restart", x.restart(), want);
    }

    private void queries() {
        due("phase", x.phase(), model.phase());
        due("kind", x.kind(), model.kind());
        due("value", x.value(), model.value());
        due("solutionCount", x.solutionCount(), model.solutionCount());
        due("failureCount", x.failureCount(), model.failureCount());
        due("choiceCount", x.choiceCount(), model.choiceCount());
        due("allocCount", x.allocCount(), model.allocCount());
        due("tokenCount", x.tokenCount(), model.tokenCount());
        for (int i = -1; i <= 32; i++) {
            queriesAt(i);
        }
        queriesAt(any(NUMBERS));
    }

    private void queriesAt(int i) {
        dueAt("choiceBit", i, x.choiceBit(i), model.choiceBit(i));
        dueAt("tokenKind", i, x.tokenKind(i), model.tokenKind(i));
        dueAt("tokenArg", i, x.tokenArg(i), model.tokenArg(i));
    }
}
