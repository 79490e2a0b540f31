import java.util.LinkedHashMap;
import java.util.Map;
import java.util.function.Consumer;
import java.util.function.IntUnaryOperator;
import java.util.function.ToIntFunction;

/** The queries on the phase, the counts and the last solution (promises 7 to 13), sentence by sentence. */
final class QueryTest {
    private QueryTest() {
    }

    public static void main(String[] arguments) {
        phases();
        kinds();
        kindWhenCleared();
        valueOfAnInt();
        valueOfAClosure();
        valueOfNone();
        solutionCountSinceTheLast();
        solutionCountInEdit();
        failureCountSinceTheLast();
        failureCountInEdit();
        choiceCounts();
        choiceCountWhenCleared();
        choiceBitInside();
        choiceBitOutside();
        choiceBitWhenCleared();
        allocCounts();
        allocCountWhenCleared();
        queriesChangeNothing();
        Checks.finish();
    }

    /** Objects with no last solution, most of which had one before. */
    private static AmbEvaluator[] cleared() {
        String program = "LET:0 NUM:1 AMB SET:0 NUM:8 LAM:1 AMB VAR:0 VAR:1";
        AmbEvaluator reset = Checks.searched(program, 2);
        reset.reset();
        AmbEvaluator fedAfterReset = Checks.searched(program, 1);
        fedAfterReset.reset();
        Checks.feed(fedAfterReset, program);
        AmbEvaluator compiledAfterReset = Checks.searched(program, 3);
        compiledAfterReset.reset();
        Checks.feed(compiledAfterReset, program);
        compiledAfterReset.compile();
        AmbEvaluator restarted = Checks.searched(program, 1);
        restarted.restart();
        AmbEvaluator restartedInDone = Checks.searched(program, 3);
        restartedInDone.restart();
        return new AmbEvaluator[] {new AmbEvaluator(6, 16), Checks.fed(6, 16, program), Checks.compiled(6, 16, program),
            Checks.searched("AMB FAIL LET:0 NUM:7 FAIL", 1), reset, fedAfterReset, compiledAfterReset, restarted,
            restartedInDone};
    }

    private static void phases() {
        Checks.sentence("Promise 7", "phase() answers EDIT, READY or DONE, the current phase.");
        for (Points.Point point : Points.all()) {
            Checks.due("phase at the point: " + point.name, point.reach().phase(), point.phase);
        }
        AmbEvaluator x = new AmbEvaluator(6, 16);
        int[] phases = {x.phase(), 0, 0, 0, 0, 0};
        Checks.feed(x, "NUM:1");
        phases[1] = x.phase();
        x.compile();
        phases[2] = x.phase();
        x.next();
        phases[3] = x.phase();
        x.next();
        phases[4] = x.phase();
        x.reset();
        phases[5] = x.phase();
        int[] want = {AmbEvaluator.EDIT, AmbEvaluator.EDIT, AmbEvaluator.READY, AmbEvaluator.READY, AmbEvaluator.DONE,
            AmbEvaluator.EDIT};
        for (int i = 0; i < want.length; i++) {
            Checks.due("step " + i, phases[i], want[i]);
        }
    }

    private static void kinds() {
        Checks.sentence("Promise 8", "kind() answers KIND_NONE, KIND_INT or KIND_CLOSURE, "
            + "the kind of the last solution.");
        AmbEvaluator x = Checks.compiled(6, 16, "AMB LAM:0 VAR:0 AMB NUM:0 AMB FAIL LAM:1 NUM:0");
        int[] want = {AmbEvaluator.KIND_CLOSURE, AmbEvaluator.KIND_INT, AmbEvaluator.KIND_CLOSURE};
        Checks.due("before next", x.kind(), AmbEvaluator.KIND_NONE);
        for (int kind : want) {
            x.next();
            Checks.due("kind", x.kind(), kind);
        }
        x.next();
        Checks.due("in DONE", x.kind(), AmbEvaluator.KIND_CLOSURE);
    }

    private static void kindWhenCleared() {
        Checks.sentence("Promise 8", "It is KIND_NONE when the last solution is cleared.");
        for (AmbEvaluator x : cleared()) {
            Checks.due("kind", x.kind(), AmbEvaluator.KIND_NONE);
        }
    }

    private static void valueOfAnInt() {
        Checks.sentence("Promise 9", "for KIND_INT, the int");
        int[] values = {Checks.LEAST, Checks.LEAST + 1, -65536, -1, 0, 1, 255, 65536, Checks.MOST - 1, Checks.MOST};
        for (int value : values) {
            AmbEvaluator x = Checks.searched("AMB NUM:" + value + " FAIL", 1);
            Checks.due("value", x.value(), value);
            x.next();
            Checks.due("value in DONE", x.value(), value);
        }
    }

    private static void valueOfAClosure() {
        Checks.sentence("Promise 9", "for KIND_CLOSURE, the position of the closure's LAM token");
        // Each SEQ moves the LAM on by two, a SET and a LET by one and two, up to position 30 of 31.
        for (int before = 0; before <= 14; before++) {
            String text = "SEQ NUM:5 ".repeat(before) + "LAM:3 VAR:3";
            Checks.dueSearch(text, "->L" + 2 * before + "@1!0 end!0");
        }
        Checks.dueSearch("LET:0 NUM:1 ".repeat(15) + "LAM:0 VAR:0", "->L30@16!0 end!0");
        Checks.dueSearch("LET:0 NUM:1 SET:0 LAM:0 VAR:0", "->L3@2!0 end!0");
        Checks.dueSearch("LET:0 LAM:1 VAR:1 VAR:0", "->L1@2!0 end!0");
        Checks.dueSearch("APP LAM:0 VAR:0 LAM:1 NUM:2", "->L3@3!0 end!0");
        Checks.dueSearch("APP LAM:0 LAM:1 VAR:0 NUM:9", "->L2@3!0 end!0");
        Checks.dueSearch("AMB LAM:0 VAR:0 LAM:0 VAR:0", "0>L1@1!0 1>L3@1!0 end!0");
        Checks.dueSearch("SEQ LAM:0 NUM:1 LAM:0 NUM:1", "->L3@2!0 end!0");
    }

    private static void valueOfNone() {
        Checks.sentence("Promise 9", "for KIND_NONE, 0.");
        for (AmbEvaluator x : cleared()) {
            Checks.due("value", x.value(), 0);
        }
    }

    /** A count after each call of next, in each of several searches. */
    private static void dueSinceTheLast(String program, ToIntFunction<AmbEvaluator> query, int... counts) {
        AmbEvaluator x = Checks.compiled(6, 16, program);
        for (int round = 0; round < 2; round++) {
            Checks.due("before next", query.applyAsInt(x), 0);
            for (int count : counts) {
                x.next();
                Checks.due("after next", query.applyAsInt(x), count);
                x.compile();
                x.token(AmbEvaluator.NUM, 1);
                Checks.due("after calls that are refused", query.applyAsInt(x), count);
            }
            x.restart();
        }
        x.next();
        x.restart();
        Checks.due("after a restart in READY", query.applyAsInt(x), 0);
        x.next();
        Checks.due("from 0 again", query.applyAsInt(x), counts[0]);
    }

    private static void solutionCountSinceTheLast() {
        Checks.sentence("Promise 10", "solutionCount() answers the number of solutions yielded since "
            + "the last successful compile or restart.");
        dueSinceTheLast("AMB NUM:1 AMB NUM:2 FAIL", AmbEvaluator::solutionCount, 1, 2, 2, 2);
        dueSinceTheLast("AMB FAIL FAIL", AmbEvaluator::solutionCount, 0, 0);
    }

    private static void solutionCountInEdit() {
        Checks.sentence("Promise 10", "It is 0 in phase EDIT.");
        for (Points.Point point : Points.in(AmbEvaluator.EDIT)) {
            Checks.due("at the point: " + point.name, point.reach().solutionCount(), 0);
        }
    }

    private static void failureCountSinceTheLast() {
        Checks.sentence("Promise 11", "failureCount() answers the number of failing paths examined since the last "
            + "successful compile or restart.");
        dueSinceTheLast("AMB FAIL AMB NUM:1 AMB FAIL AMB NUM:2 FAIL", AmbEvaluator::failureCount, 1, 2, 3, 3);
        dueSinceTheLast("AMB NUM:1 NUM:2", AmbEvaluator::failureCount, 0, 0, 0, 0);
    }

    private static void failureCountInEdit() {
        Checks.sentence("Promise 11", "It is 0 in phase EDIT.");
        for (Points.Point point : Points.in(AmbEvaluator.EDIT)) {
            Checks.due("at the point: " + point.name, point.reach().failureCount(), 0);
        }
    }

    private static void choiceCounts() {
        Checks.sentence("Promise 12", "choiceCount() answers the length k of the last solution's choice vector");
        AmbEvaluator x = Checks.compiled(6, 16, Programs.chainOfChoices(6));
        int[] lengths = {1, 2, 3, 4, 5, 6, 6, 6, 6};
        for (int k : lengths) {
            x.next();
            Checks.due("a longer vector at each solution", x.choiceCount(), k);
        }
        x = Checks.compiled(6, 16, "AMB AMB AMB NUM:1 NUM:2 NUM:3 NUM:4");
        int[] shorter = {3, 3, 2, 1, 1};
        for (int k : shorter) {
            x.next();
            Checks.due("a shorter vector at each solution", x.choiceCount(), k);
        }
        Checks.due("no choices at all", Checks.searched("NUM:1", 1).choiceCount(), 0);
    }

    private static void choiceCountWhenCleared() {
        Checks.sentence("Promise 12", "which is 0 if the last solution is cleared.");
        for (AmbEvaluator x : cleared()) {
            Checks.due("choiceCount", x.choiceCount(), 0);
        }
    }

    private static void choiceBitInside() {
        Checks.sentence("Promise 12", "choiceBit(i) answers bit d(i+1) of that vector, 0 or 1, "
            + "for i in 0..choiceCount()-1.");
        AmbEvaluator x = Checks.compiled(6, 16, Programs.NUMBERS);
        for (int n = 0; n < 64; n++) {
            x.next();
            for (int i = 0; i < 6; i++) {
                Checks.due("choiceBit(" + i + ") of path " + n, x.choiceBit(i), (n >> (5 - i)) & 1);
            }
        }
        x = Checks.compiled(6, 16, Programs.chainOfChoices(6));
        for (int k = 1; k <= 6; k++) {
            x.next();
            for (int i = 0; i < k; i++) {
                Checks.due("choiceBit(" + i + ") of " + k, x.choiceBit(i), i == k - 1 ? 0 : 1);
            }
        }
    }

    private static void choiceBitOutside() {
        Checks.sentence("Promise 12", "Any other i answers -1, including negative i, i >= choiceCount()");
        int[] far = {Checks.LEAST, Checks.LEAST + 1, -65536, -64, -32, -31, -7, -6, -2, -1, 31, 32, 33, 37, 38, 63, 64,
            256, 65536, Checks.MOST - 1, Checks.MOST};
        AmbEvaluator x = Checks.compiled(6, 16, Programs.NUMBERS);
        AmbEvaluator y = Checks.compiled(6, 16, "AMB AMB AMB AMB AMB AMB NUM:1 NUM:2 NUM:3 NUM:4 NUM:5 NUM:6 NUM:7");
        AmbEvaluator none = Checks.searched("NUM:1", 1);
        for (int n = 0; n < 64; n++) {
            x.next();
            y.next();
            for (AmbEvaluator any : new AmbEvaluator[] {x, y, none}) {
                for (int i : far) {
                    Checks.due("choiceBit(" + i + ")", any.choiceBit(i), -1);
                }
                for (int i = any.choiceCount(); i <= 8; i++) {
                    Checks.due("choiceBit(" + i + ") of " + any.choiceCount(), any.choiceBit(i), -1);
                }
            }
        }
    }

    private static void choiceBitWhenCleared() {
        Checks.sentence("Promise 12", "and every i while the last solution is cleared.");
        for (AmbEvaluator x : cleared()) {
            int[] anywhere = {Checks.LEAST, -32, -1, 0, 1, 2, 5, 6, 31, 32, Checks.MOST};
            for (int i : anywhere) {
                Checks.due("choiceBit(" + i + ")", x.choiceBit(i), -1);
            }
        }
    }

    private static void allocCounts() {
        Checks.sentence("Promise 13", "allocCount() answers the number of allocations made on the last solution's path "
            + "(each evaluation of a LET, LAM or APP on that path makes one).");
        for (int n = 0; n <= 16; n++) {
            Checks.due(n + " allocations", Checks.searched(Programs.chainOfAllocations(n), 1).allocCount(), n);
        }
        Checks.dueSearch("LET:0 NUM:1 NUM:2", "->2@1!0 end!0");
        Checks.dueSearch("LAM:0 NUM:1", "->L0@1!0 end!0");
        Checks.dueSearch("APP LAM:0 NUM:1 NUM:2", "->1@2!0 end!0");
        // The same LET, LAM or APP counts at each evaluation, and not at all if it is not evaluated.
        Checks.dueSearch("LET:0 LAM:1 LET:2 VAR:1 VAR:2 ADD APP VAR:0 NUM:1 APP VAR:0 NUM:2", "->3@6!0 end!0");
        Checks.dueSearch("LET:0 LAM:1 LAM:2 NUM:1 SEQ APP VAR:0 NUM:1 APP VAR:0 NUM:2", "->L2@6!0 end!0");
        Checks.dueSearch("IF NUM:0 LET:0 NUM:1 LAM:1 NUM:1 NUM:7", "->7@0!0 end!0");
        Checks.dueSearch("LAM:0 LET:1 LAM:2 NUM:1 APP VAR:1 NUM:2", "->L0@1!0 end!0");
        // No other form allocates.
        Checks.dueSearch("IF REQ EQ LT ADD NUM:1 NUM:2 SUB NUM:3 MUL NUM:4 NUM:5 NUM:0 NUM:1 "
            + "SEQ NUM:1 AMB NUM:2 NUM:3 FAIL",
            "0>2@0!0 1>3@0!0 end!0");
        Checks.dueSearch("LET:0 NUM:1 SEQ SET:0 NUM:2 SET:0 VAR:0", "->2@1!0 end!0");
        // Neither those of the failing paths before it nor those of the solution before it are in the count.
        Checks.dueSearch("AMB LET:0 LAM:1 NUM:1 FAIL AMB LET:0 NUM:2 NUM:3 AMB NUM:4 LET:0 LAM:1 NUM:5 FAIL",
            "10>3@1!1 110>4@0!1 end!2");
    }

    private static void allocCountWhenCleared() {
        Checks.sentence("Promise 13", "It is 0 if the last solution is cleared.");
        for (AmbEvaluator x : cleared()) {
            Checks.due("allocCount", x.allocCount(), 0);
        }
    }

    private static void queriesChangeNothing() {
        Map<String, Consumer<AmbEvaluator>> queries = new LinkedHashMap<>();
        queries.put("Promise 7", x -> x.phase());
        queries.put("Promise 8", x -> x.kind());
        queries.put("Promise 9", x -> x.value());
        queries.put("Promise 10", x -> x.solutionCount());
        queries.put("Promise 11", x -> x.failureCount());
        queries.put("Promise 12 (choiceCount)", x -> x.choiceCount());
        queries.put("Promise 12 (choiceBit)", x -> anywhere(x::choiceBit));
        queries.put("Promise 13", x -> x.allocCount());
        queries.put("Promise 14", x -> x.tokenCount());
        queries.put("Promise 15", x -> anywhere(x::tokenKind));
        queries.put("Promise 16", x -> anywhere(x::tokenArg));
        queries.forEach((promise, query) -> {
            Checks.sentence(promise, "It changes nothing.");
            for (Points.Point point : Points.all()) {
                Points.dueNoChange("the query", point, query);
            }
        });
    }

    private static void anywhere(IntUnaryOperator query) {
        int[] positions = {Checks.LEAST, -1, 0, 1, 5, 9, 31, 32, Checks.MOST};
        for (int i : positions) {
            query.applyAsInt(i);
        }
    }
}
