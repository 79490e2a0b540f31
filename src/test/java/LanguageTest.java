/** Values, and each row of the document's table of evaluation, sentence by sentence. */
final class LanguageTest {
    private static final String CLOSURE = "LAM:7 VAR:7";
    private static final String[] PAIRS = {"ADD", "SUB", "MUL", "LT", "EQ"};
    private static final int[] SAMPLES = {Checks.LEAST, Checks.LEAST + 1, -65537, -65536, -2, -1, 0, 1, 2, 65535, 65536,
        Checks.MOST - 1, Checks.MOST};

    private LanguageTest() {
    }

    public static void main(String[] arguments) {
        arithmeticWraps();
        locationsAreShared();
        setIsSeenByAll();
        failureEndsThePath();
        allocationAtTheLimit();
        allocationRaisesTheCount();
        num();
        var();
        operandsInOrder();
        operandsThatAreClosures();
        addSubMul();
        lt();
        eq();
        ifOnAClosure();
        ifOnAnInt();
        ifEvaluatesOneBranch();
        ambAtTheLimit();
        ambChooses();
        ambLeavesTheOther();
        fail();
        reqRefuses();
        reqPasses();
        let();
        lam();
        appInOrder();
        appOfAnInt();
        appAllocates();
        appInTheClosuresEnvironment();
        set();
        seq();
        Checks.finish();
    }

    /** Runs the whole search: the values in order, then the number of failing paths. */
    private static void dueInts(String text, int failures, int... values) {
        dueIntsWith(6, 16, text, failures, values);
    }

    private static void dueIntsWith(int maxChoices, int maxAlloc, String text, int failures, int... values) {
        AmbEvaluator x = Checks.compiled(maxChoices, maxAlloc, text);
        for (int value : values) {
            Checks.due("next of " + text, x.next(), AmbEvaluator.SOLUTION);
            Checks.due("kind of " + text, x.kind(), AmbEvaluator.KIND_INT);
            Checks.due("value of " + text, x.value(), value);
        }
        Checks.due("last next of " + text, x.next(), AmbEvaluator.EXHAUSTED);
        Checks.dueCounts(text, x, AmbEvaluator.DONE, values.length, failures);
    }

    private static void arithmeticWraps() {
        Checks.sentence("Values", "an int (32 bit; arithmetic wraps as Java int arithmetic does)");
        String least = " NUM:" + Checks.LEAST;
        String most = " NUM:" + Checks.MOST;
        dueInts("ADD" + most + " NUM:1", 0, Checks.LEAST);
        dueInts("ADD" + least + " NUM:-1", 0, Checks.MOST);
        dueInts("ADD" + most + most, 0, -2);
        dueInts("ADD" + least + least, 0, 0);
        dueInts("SUB" + least + " NUM:1", 0, Checks.MOST);
        dueInts("SUB" + most + " NUM:-1", 0, Checks.LEAST);
        dueInts("SUB NUM:0" + least, 0, Checks.LEAST);
        dueInts("SUB" + least + most, 0, 1);
        dueInts("MUL" + most + " NUM:2", 0, -2);
        dueInts("MUL" + least + " NUM:-1", 0, Checks.LEAST);
        dueInts("MUL" + most + most, 0, 1);
        dueInts("MUL NUM:65536 NUM:65536", 0, 0);
        dueInts("MUL NUM:65536 NUM:32768", 0, Checks.LEAST);
        dueInts("MUL NUM:65535 NUM:65537", 0, -1);
    }

    private static void locationsAreShared() {
        Checks.sentence("Values", "Closures share the locations they capture; nothing is copied.");
        dueInts("LET:0 NUM:1 LET:1 LAM:2 VAR:0 SEQ SET:0 NUM:9 APP VAR:1 NUM:5", 0, 9);
        dueInts("LET:0 NUM:1 LET:1 LAM:2 SET:0 VAR:2 LET:3 LAM:2 VAR:0 SEQ APP VAR:1 NUM:4 APP VAR:3 NUM:0", 0, 4);
        // A location of its own for each application: the counter of one is not the other's.
        dueInts("LET:0 LAM:1 LAM:2 SET:1 ADD VAR:1 VAR:2 LET:3 APP VAR:0 NUM:10 LET:4 APP VAR:0 NUM:20 "
            + "SEQ APP VAR:3 NUM:1 ADD APP VAR:3 NUM:1 MUL NUM:100 APP VAR:4 NUM:1", 0, 2112);
        // A copy of a closure is the same closure.
        dueInts("LET:0 LET:1 NUM:0 LAM:2 SET:1 ADD VAR:1 VAR:2 LET:3 VAR:0 SEQ APP VAR:0 NUM:5 APP VAR:3 NUM:2", 0, 7);
    }

    private static void setIsSeenByAll() {
        Checks.sentence("Values", "A SET seen through any environment that holds the same location is seen by all.");
        dueInts("LET:0 NUM:1 LET:1 NUM:2 SEQ SET:0 NUM:6 VAR:0", 0, 6);
        dueInts("LET:0 NUM:1 SEQ LET:1 NUM:2 SET:0 NUM:6 VAR:0", 0, 6);
        dueInts("LET:0 NUM:1 LET:1 LAM:2 SET:0 VAR:2 SEQ APP VAR:1 NUM:9 VAR:0", 0, 9);
        dueInts("LET:0 NUM:0 APP LAM:1 VAR:0 SET:0 NUM:8", 0, 8);
        // Not by a variable of the same name at another location, nor by a value that was read before.
        dueInts("LET:0 NUM:1 SEQ LET:0 NUM:5 SET:0 NUM:6 VAR:0", 0, 1);
        dueInts("LET:0 NUM:1 SEQ APP LAM:0 SET:0 NUM:9 VAR:0 VAR:0", 0, 1);
        dueInts("LET:0 NUM:1 LET:1 VAR:0 SEQ SET:0 NUM:6 VAR:1", 0, 1);
        dueInts("LET:0 NUM:1 SUB VAR:0 SET:0 NUM:5", 0, -4);
    }

    private static void failureEndsThePath() {
        Checks.sentence("Evaluation", "'Fails' means the whole path ends at once as a failing path.");
        dueInts("SEQ FAIL AMB NUM:1 NUM:2", 1);
        dueInts("SEQ AMB NUM:1 NUM:2 FAIL", 2);
        dueInts("ADD FAIL AMB NUM:1 NUM:2", 1);
        dueInts("APP FAIL AMB NUM:1 NUM:2", 1);
        dueInts("LET:0 FAIL AMB NUM:1 NUM:2", 1);
        dueInts("IF FAIL AMB NUM:1 NUM:2 AMB NUM:1 NUM:2", 1);
        dueInts("LET:0 NUM:1 SET:0 SEQ ADD NUM:1 FAIL AMB NUM:1 NUM:2", 1);
        dueInts("APP LAM:0 SEQ FAIL NUM:1 AMB NUM:1 NUM:2", 2);
    }

    private static void allocationAtTheLimit() {
        Checks.sentence("Evaluation", "'Allocation' means: if the path has already made maxAlloc allocations, fail");
        for (int limit = 1; limit <= 15; limit++) {
            String lets = "LET:0 NUM:1 ".repeat(limit - 1);
            Checks.dueSearchWith(6, limit, lets + "LET:1 NUM:1 NUM:2", "->2@" + limit + "!0 end!0");
            Checks.dueSearchWith(6, limit, lets + "LAM:1 NUM:2", "->L" + (2 * limit - 2) + "@" + limit + "!0 end!0");
            if (limit > 1) {
                Checks.dueSearchWith(6, limit - 1, lets + "LET:1 NUM:1 NUM:2", "end!1");
                Checks.dueSearchWith(6, limit - 1, lets + "LAM:1 NUM:2", "end!1");
            }
            if (limit <= 14) {
                int made = limit + 1;
                Checks.dueSearchWith(6, made, lets + "APP LAM:1 NUM:2 NUM:3", "->2@" + made + "!0 end!0");
                Checks.dueSearchWith(6, limit, lets + "APP LAM:1 NUM:2 NUM:3", "end!1");
            }
        }
    }

    private static void allocationRaisesTheCount() {
        Checks.sentence("Evaluation", "otherwise the path's allocation count rises by 1.");
        Checks.dueSearch("SEQ LAM:1 NUM:1 SEQ LAM:1 NUM:2 NUM:3", "->3@2!0 end!0");
        Checks.dueSearchWith(6, 1, "SEQ LAM:1 NUM:1 SEQ LAM:1 NUM:2 NUM:3", "end!1");
        Checks.dueSearch("LET:0 LAM:1 VAR:1 ADD APP VAR:0 NUM:1 APP VAR:0 NUM:2", "->3@4!0 end!0");
        Checks.dueSearchWith(6, 3, "LET:0 LAM:1 VAR:1 ADD APP VAR:0 NUM:1 APP VAR:0 NUM:2", "end!1");
        // The room of a LET that is left, or of a closure that is dropped, does not come back.
        Checks.dueSearchWith(6, 2, "ADD LET:0 NUM:1 VAR:0 ADD LET:0 NUM:2 VAR:0 LET:0 NUM:3 VAR:0", "end!1");
        Checks.dueSearchWith(6, 3, "ADD LET:0 NUM:1 VAR:0 ADD LET:0 NUM:2 VAR:0 LET:0 NUM:3 VAR:0",
            "->6@3!0 end!0");
    }

    private static void num() {
        Checks.sentence("Evaluation", "NUM n: the int n.");
        for (int n : SAMPLES) {
            Checks.dueSearch("NUM:" + n, "->" + n + "@0!0 end!0");
        }
    }

    private static void var() {
        Checks.sentence("Evaluation", "VAR v: the current content of env's location for v.");
        for (int v = 0; v <= 7; v++) {
            dueInts("LET:" + v + " NUM:4 VAR:" + v, 0, 4);
            dueInts("LET:" + v + " NUM:4 SEQ SET:" + v + " NUM:5 VAR:" + v, 0, 5);
        }
        Checks.dueSearch("LET:0 " + CLOSURE + " VAR:0", "->L1@2!0 end!0");
        Checks.dueSearch("LET:0 NUM:1 SEQ SET:0 " + CLOSURE + " VAR:0", "->L4@2!0 end!0");
        Checks.dueSearch("LET:0 " + CLOSURE + " SEQ SET:0 NUM:0 VAR:0", "->0@2!0 end!0");
        // All eight variables at once, each with its own location.
        dueInts("LET:0 NUM:1 LET:1 NUM:2 LET:2 NUM:4 LET:3 NUM:8 LET:4 NUM:16 LET:5 NUM:32 LET:6 NUM:64 LET:7 NUM:128 "
            + "ADD VAR:0 ADD VAR:1 ADD VAR:2 ADD VAR:3 ADD VAR:4 ADD VAR:5 ADD VAR:6 VAR:7", 0, 255);
        // The outermost of fifteen bindings.
        dueInts("LET:7 NUM:77 " + "LET:0 NUM:1 ".repeat(14) + "VAR:7", 0, 77);
    }

    private static void operandsInOrder() {
        Checks.sentence("Evaluation", "ADD/SUB/MUL/LT/EQ a b: Evaluate a, then b.");
        for (String pair : PAIRS) {
            Checks.dueSearch("LET:0 NUM:3 SEQ " + pair + " SET:0 NUM:4 SET:0 NUM:5 VAR:0", "->5@1!0 end!0");
            Checks.dueSearch("SEQ " + pair + " AMB NUM:1 FAIL AMB FAIL NUM:1 NUM:7", "01>7@0!1 end!2");
        }
        dueInts("LET:0 NUM:1 SUB VAR:0 SET:0 NUM:5", 0, -4);
        dueInts("LET:0 NUM:1 SUB SET:0 NUM:5 VAR:0", 0, 0);
        dueInts("SUB SUB NUM:1 NUM:2 SUB NUM:3 MUL NUM:4 NUM:5", 0, 16);
    }

    private static void operandsThatAreClosures() {
        Checks.sentence("Evaluation", "If either value is a closure, fail.");
        for (String pair : PAIRS) {
            dueInts(pair + " " + CLOSURE + " NUM:1", 1);
            dueInts(pair + " NUM:1 " + CLOSURE, 1);
            dueInts(pair + " " + CLOSURE + " " + CLOSURE, 1);
            dueInts("LET:0 " + CLOSURE + " " + pair + " VAR:0 VAR:0", 1);
            // Both are evaluated before either is looked at.
            dueInts(pair + " " + CLOSURE + " AMB NUM:1 NUM:2", 2);
            dueInts(pair + " AMB NUM:1 " + CLOSURE + " AMB FAIL " + CLOSURE, 4);
        }
    }

    private static void addSubMul() {
        Checks.sentence("Evaluation", "Otherwise: a+b, a-b or a*b (wrapping)");
        for (int a : SAMPLES) {
            for (int b : SAMPLES) {
                String operands = " NUM:" + a + " NUM:" + b;
                dueInts("ADD" + operands, 0, a + b);
                dueInts("SUB" + operands, 0, a - b);
                dueInts("MUL" + operands, 0, a * b);
            }
        }
    }

    private static void lt() {
        Checks.sentence("Evaluation", "LT gives 1 if a<b (signed) else 0");
        for (int i = 0; i < SAMPLES.length; i++) {
            for (int j = 0; j < SAMPLES.length; j++) {
                dueInts("LT NUM:" + SAMPLES[i] + " NUM:" + SAMPLES[j], 0, i < j ? 1 : 0);
            }
        }
        dueInts("LT NUM:4 NUM:4", 0, 0);
        dueInts("LT NUM:4 NUM:5", 0, 1);
        dueInts("LT NUM:-1 NUM:0", 0, 1);
    }

    private static void eq() {
        Checks.sentence("Evaluation", "EQ gives 1 if a==b else 0.");
        for (int i = 0; i < SAMPLES.length; i++) {
            for (int j = 0; j < SAMPLES.length; j++) {
                dueInts("EQ NUM:" + SAMPLES[i] + " NUM:" + SAMPLES[j], 0, i == j ? 1 : 0);
            }
        }
        dueInts("EQ NUM:200 NUM:200", 0, 1);
        dueInts("EQ NUM:1 NUM:257", 0, 0);
    }

    private static void ifOnAClosure() {
        Checks.sentence("Evaluation", "IF c t e: Evaluate c; a closure fails.");
        dueInts("IF " + CLOSURE + " NUM:1 NUM:2", 1);
        dueInts("IF " + CLOSURE + " AMB NUM:1 NUM:2 AMB NUM:3 NUM:4", 1);
        dueInts("LET:0 " + CLOSURE + " IF VAR:0 NUM:1 NUM:2", 1);
        dueInts("SEQ NUM:1 IF " + CLOSURE + " NUM:1 NUM:2", 1);
    }

    private static void ifOnAnInt() {
        Checks.sentence("Evaluation", "Nonzero gives the value of t; zero gives the value of e.");
        for (int c : SAMPLES) {
            dueInts("IF NUM:" + c + " NUM:1 NUM:2", 0, c != 0 ? 1 : 2);
        }
        dueInts("IF NUM:256 NUM:1 NUM:2", 0, 1);
        Checks.dueSearch("IF NUM:1 " + CLOSURE + " NUM:2", "->L2@1!0 end!0");
        Checks.dueSearch("IF NUM:0 NUM:2 " + CLOSURE, "->L3@1!0 end!0");
    }

    private static void ifEvaluatesOneBranch() {
        Checks.sentence("Evaluation", "Only the chosen branch is evaluated.");
        dueInts("IF NUM:0 FAIL NUM:2", 0, 2);
        dueInts("IF NUM:1 NUM:1 FAIL", 0, 1);
        dueInts("IF NUM:1 AMB NUM:1 NUM:2 AMB NUM:3 AMB NUM:4 NUM:5", 0, 1, 2);
        dueInts("IF AMB NUM:0 NUM:1 AMB NUM:1 NUM:2 ADD NUM:3 NUM:4", 0, 7, 1, 2);
        dueInts("LET:0 NUM:1 SEQ IF NUM:0 SET:0 NUM:2 NUM:3 VAR:0", 0, 1);
        dueInts("LET:0 NUM:1 SEQ IF NUM:5 NUM:3 SET:0 NUM:2 VAR:0", 0, 1);
        dueIntsWith(6, 1, "LET:0 NUM:1 IF VAR:0 NUM:3 LET:1 NUM:4 VAR:1", 0, 3);
    }

    private static void ambAtTheLimit() {
        Checks.sentence("Evaluation", "AMB a b: If the path has made maxChoices choices, fail.");
        Checks.dueSearchWith(1, 1, "AMB AMB NUM:1 NUM:2 NUM:3", "1>3@0!1 end!1");
        Checks.dueSearchWith(1, 1, "AMB NUM:1 AMB NUM:2 NUM:3", "0>1@0!0 end!1");
        Checks.dueSearchWith(1, 1, "ADD AMB NUM:1 NUM:2 AMB NUM:1 NUM:2", "end!2");
        Checks.dueSearchWith(2, 1, "ADD AMB NUM:1 NUM:2 AMB NUM:1 NUM:2",
            "00>2@0!0 01>3@0!0 10>3@0!0 11>4@0!0 end!0");
        String five = "SEQ AMB NUM:1 NUM:2 ".repeat(5);
        for (int limit = 1; limit <= 5; limit++) {
            Checks.dueSearchWith(limit, 1, five + "AMB NUM:1 NUM:2", "end!" + (1 << limit));
        }
        AmbEvaluator x = Checks.compiled(6, 1, five + "AMB NUM:1 NUM:2");
        Checks.search(x);
        Checks.dueCounts("six choices", x, AmbEvaluator.DONE, 64, 0);
        Checks.dueSearchWith(6, 1, five + "SEQ AMB NUM:1 NUM:2 AMB NUM:1 NUM:2", "end!64");
        // A choice whose operand fails was made all the same.
        Checks.dueSearchWith(1, 1, "AMB FAIL AMB FAIL NUM:1", "end!2");
    }

    private static void ambChooses() {
        Checks.sentence("Evaluation", "d=0 gives the value of a, d=1 the value of b.");
        Checks.dueSearch("AMB NUM:1 NUM:2", "0>1@0!0 1>2@0!0 end!0");
        Checks.dueSearch("AMB ADD NUM:1 NUM:2 SUB NUM:1 NUM:1", "0>3@0!0 1>0@0!0 end!0");
        Checks.dueSearch("AMB ADD AMB NUM:1 NUM:2 NUM:3 SUB NUM:1 NUM:1", "00>4@0!0 01>5@0!0 1>0@0!0 end!0");
        Checks.dueSearch("AMB " + CLOSURE + " IF NUM:0 NUM:1 NUM:2", "0>L1@1!0 1>2@0!0 end!0");
        dueInts("LET:0 AMB NUM:1 NUM:2 LET:1 AMB NUM:1 NUM:2 REQ EQ ADD VAR:0 VAR:1 NUM:3 VAR:0", 2, 1, 2);
    }

    private static void ambLeavesTheOther() {
        Checks.sentence("Evaluation", "The other operand is not evaluated.");
        Checks.dueSearch("AMB FAIL NUM:2", "1>2@0!1 end!1");
        Checks.dueSearch("AMB NUM:1 FAIL", "0>1@0!0 end!1");
        Checks.dueSearch("LET:0 NUM:1 SEQ AMB SET:0 NUM:2 SET:0 NUM:3 VAR:0", "0>2@1!0 1>3@1!0 end!0");
        Checks.dueSearchWith(6, 1, "AMB LET:0 NUM:1 VAR:0 LAM:0 NUM:2", "0>1@1!0 1>L4@1!0 end!0");
        Checks.dueSearchWith(2, 1, "AMB AMB NUM:1 NUM:2 AMB NUM:3 NUM:4",
            "00>1@0!0 01>2@0!0 10>3@0!0 11>4@0!0 end!0");
    }

    private static void fail() {
        Checks.sentence("Evaluation", "FAIL: fail.");
        Checks.dueSearch("FAIL", "end!1");
        Checks.dueSearch("AMB FAIL FAIL", "end!2");
        Checks.dueSearch("IF NUM:0 FAIL NUM:2", "->2@0!0 end!0");
        Checks.dueSearch("LAM:0 FAIL", "->L0@1!0 end!0");
        Checks.dueSearch("APP LAM:0 FAIL NUM:1", "end!1");
    }

    private static void reqRefuses() {
        Checks.sentence("Evaluation", "REQ c e: Evaluate c. If it is a closure or 0, fail");
        dueInts("REQ NUM:0 NUM:2", 1);
        dueInts("REQ " + CLOSURE + " NUM:1", 1);
        dueInts("LET:0 " + CLOSURE + " REQ VAR:0 NUM:1", 1);
        dueInts("SEQ NUM:1 REQ " + CLOSURE + " NUM:1", 1);
        dueInts("REQ EQ NUM:1 NUM:2 NUM:2", 1);
        // e is not evaluated then.
        dueInts("REQ NUM:0 AMB NUM:1 NUM:2", 1);
        dueInts("REQ " + CLOSURE + " AMB NUM:1 NUM:2", 1);
    }

    private static void reqPasses() {
        Checks.sentence("Evaluation", "otherwise the value of e.");
        for (int c : SAMPLES) {
            if (c != 0) {
                dueInts("REQ NUM:" + c + " NUM:2", 0, 2);
            }
        }
        dueInts("REQ NUM:256 NUM:0", 0, 0);
        dueInts("REQ AMB NUM:0 NUM:3 AMB NUM:1 NUM:2", 1, 1, 2);
        dueInts("REQ NUM:1 FAIL", 1);
        Checks.dueSearch("REQ NUM:1 " + CLOSURE, "->L2@1!0 end!0");
    }

    private static void let() {
        Checks.sentence("Evaluation", "LET v e b: Evaluate e to x; allocation; a new location holding x; "
            + "then the value of b in env extended by v to that location.");
        dueInts("LET:0 NUM:4 VAR:0", 0, 4);
        dueInts("LET:0 NUM:1 LET:0 ADD VAR:0 NUM:5 VAR:0", 0, 6);
        dueInts("LET:0 NUM:1 ADD LET:0 NUM:5 VAR:0 VAR:0", 0, 6);
        dueInts("LET:0 NUM:1 SUB LET:0 NUM:5 SET:0 NUM:9 VAR:0", 0, 8);
        dueInts("LET:0 NUM:1 LET:7 NUM:2 LET:3 NUM:3 SUB VAR:0 MUL VAR:7 VAR:3", 0, -5);
        dueInts("LET:0 FAIL NUM:4", 1);
        // e comes before the allocation, and b after it: the limit lets e choose, but not b.
        dueIntsWith(6, 1, "LET:0 NUM:1 LET:1 AMB NUM:1 NUM:2 NUM:3", 2);
        dueIntsWith(6, 1, "LET:0 NUM:1 LET:1 NUM:1 AMB NUM:1 NUM:2", 1);
        // The allocation of an inner LET in e comes first.
        Checks.dueSearchWith(6, 2, "LET:0 LET:1 NUM:3 VAR:1 VAR:0", "->3@2!0 end!0");
        Checks.dueSearchWith(6, 1, "LET:0 LET:1 NUM:3 VAR:1 VAR:0", "end!1");
    }

    private static void lam() {
        Checks.sentence("Evaluation", "LAM v b: Allocation; then the closure (this LAM token, env).");
        Checks.dueSearchWith(6, 1, "LAM:0 VAR:0", "->L0@1!0 end!0");
        Checks.dueSearchWith(6, 1, "LET:0 NUM:1 LAM:1 VAR:0", "end!1");
        // b is not evaluated: neither its failure nor its choices nor its allocations show.
        Checks.dueSearchWith(6, 1, "LAM:0 FAIL", "->L0@1!0 end!0");
        Checks.dueSearchWith(6, 1, "LAM:0 AMB NUM:1 NUM:2", "->L0@1!0 end!0");
        Checks.dueSearchWith(6, 1, "LAM:0 LAM:1 LAM:2 VAR:0", "->L0@1!0 end!0");
        // Two evaluations of one LAM token are closures with environments of their own.
        dueInts("LET:0 LAM:1 LAM:2 VAR:1 LET:3 APP VAR:0 NUM:5 LET:4 APP VAR:0 NUM:6 "
            + "SUB APP VAR:3 NUM:0 APP VAR:4 NUM:0", 0, -1);
    }

    private static void appInOrder() {
        Checks.sentence("Evaluation", "APP f a: Evaluate f, then a.");
        dueInts("LET:0 NUM:0 APP SEQ SET:0 NUM:1 LAM:1 VAR:1 VAR:0", 0, 1);
        dueInts("LET:0 NUM:0 APP LAM:1 VAR:0 SET:0 NUM:8", 0, 8);
        dueInts("LET:0 LAM:1 NUM:3 APP VAR:0 SET:0 LAM:1 NUM:4", 0, 3);
        dueInts("APP AMB LAM:0 VAR:0 LAM:0 FAIL AMB NUM:1 NUM:2", 2, 1, 2);
        dueInts("APP LAM:0 NUM:3 FAIL", 1);
        dueInts("APP FAIL AMB NUM:1 NUM:2", 1);
    }

    private static void appOfAnInt() {
        Checks.sentence("Evaluation", "If f's value is an int, fail.");
        for (int f : SAMPLES) {
            dueInts("APP NUM:" + f + " NUM:2", 1);
            dueInts("LET:0 LAM:1 NUM:4 APP NUM:" + f + " NUM:2", 1);
        }
        dueInts("APP NUM:1 " + CLOSURE, 1);
        // a is evaluated before that.
        dueInts("APP NUM:1 AMB NUM:2 NUM:3", 2);
        dueInts("APP NUM:1 AMB NUM:2 AMB NUM:3 " + CLOSURE, 3);
        dueInts("LET:0 LAM:1 NUM:3 SEQ SET:0 NUM:1 APP VAR:0 NUM:1", 1);
    }

    private static void appAllocates() {
        Checks.sentence("Evaluation", "Otherwise: allocation; a new location holding a's value");
        dueIntsWith(6, 1, "APP LAM:1 NUM:1 NUM:2", 1);
        dueIntsWith(6, 2, "APP LAM:1 NUM:1 NUM:2", 0, 1);
        // f and a come before the allocation, and the body after it.
        dueIntsWith(6, 1, "APP LAM:0 NUM:1 AMB NUM:1 NUM:2", 2);
        dueIntsWith(6, 1, "APP LAM:0 AMB NUM:1 NUM:2 NUM:1", 1);
        dueInts("LET:0 LAM:1 SET:1 ADD VAR:1 NUM:1 ADD APP VAR:0 NUM:10 APP VAR:0 NUM:10", 0, 22);
        dueInts("LET:0 NUM:5 SEQ APP LAM:1 SET:1 NUM:6 VAR:0 VAR:0", 0, 5);
        Checks.dueSearch("APP LAM:0 VAR:0 " + CLOSURE, "->L3@3!0 end!0");
    }

    private static void appInTheClosuresEnvironment() {
        Checks.sentence("Evaluation", "then the value of the closure's body in the closure's environment extended by "
            + "its variable to that location.");
        dueInts("APP LAM:0 ADD VAR:0 NUM:1 NUM:4", 0, 5);
        dueInts("APP APP LAM:0 LAM:1 SUB VAR:0 VAR:1 NUM:10 NUM:3", 0, 7);
        dueInts("LET:0 NUM:1 LET:1 LAM:2 VAR:0 LET:0 NUM:2 APP VAR:1 NUM:9", 0, 1);
        dueInts("LET:0 NUM:1 LET:1 LAM:0 VAR:0 ADD APP VAR:1 NUM:9 VAR:0", 0, 10);
        dueInts("LET:1 LAM:0 MUL VAR:0 AMB NUM:2 NUM:3 ADD APP VAR:1 NUM:1 APP VAR:1 NUM:10", 0, 22, 32, 23, 33);
        dueInts("APP LAM:0 APP VAR:0 NUM:3 LAM:1 MUL VAR:1 VAR:1", 0, 9);
        // The environment of the caller is back after the call.
        dueInts("LET:0 NUM:1 LET:1 LAM:0 NUM:7 SEQ APP VAR:1 NUM:9 VAR:0", 0, 1);
        // Recursion through a variable that is set to its own closure: 5 + 4 + 3 + 2 + 1.
        dueInts("LET:0 NUM:0 SEQ SET:0 LAM:1 IF VAR:1 ADD VAR:1 APP VAR:0 SUB VAR:1 NUM:1 NUM:0 APP VAR:0 NUM:5",
            0, 15);
    }

    private static void set() {
        Checks.sentence("Evaluation", "SET v e: Evaluate e to x; store x into env's location for v; the value is x.");
        for (int v = 0; v <= 7; v++) {
            dueInts("LET:" + v + " NUM:1 SET:" + v + " NUM:6", 0, 6);
            dueInts("LET:" + v + " NUM:1 SEQ SET:" + v + " NUM:6 VAR:" + v, 0, 6);
        }
        dueInts("LET:0 NUM:1 SEQ SET:0 ADD VAR:0 NUM:6 VAR:0", 0, 7);
        dueInts("LET:0 NUM:1 SET:0 SET:0 ADD VAR:0 NUM:6", 0, 7);
        dueInts("LET:0 NUM:1 SEQ SET:0 ADD SET:0 NUM:5 VAR:0 VAR:0", 0, 10);
        dueInts("LET:0 LAM:1 NUM:3 SEQ SET:0 NUM:5 ADD VAR:0 NUM:1", 0, 6);
        dueInts("LET:0 NUM:3 SEQ SET:0 LAM:1 NUM:5 ADD VAR:0 NUM:1", 1);
        Checks.dueSearch("LET:0 NUM:1 SET:0 " + CLOSURE, "->L3@2!0 end!0");
        // The inner one of two locations of the same variable, then the outer one.
        dueInts("LET:0 NUM:1 LET:0 NUM:2 SEQ SET:0 NUM:3 VAR:0", 0, 3);
        dueInts("LET:0 NUM:1 SEQ LET:0 NUM:2 SET:0 NUM:3 SEQ VAR:0 VAR:0", 0, 1);
        // The outermost of fifteen.
        dueInts("LET:7 NUM:77 " + "LET:0 NUM:1 ".repeat(13) + "SEQ SET:7 NUM:8 VAR:7", 0, 8);
    }

    private static void seq() {
        Checks.sentence("Evaluation", "SEQ a b: Evaluate a and discard its value; the value of b.");
        dueInts("SEQ NUM:1 NUM:2", 0, 2);
        dueInts("SEQ NUM:0 NUM:2", 0, 2);
        dueInts("SEQ " + CLOSURE + " NUM:2", 0, 2);
        Checks.dueSearch("SEQ NUM:1 " + CLOSURE, "->L2@1!0 end!0");
        dueInts("LET:0 NUM:1 SEQ SET:0 NUM:2 VAR:0", 0, 2);
        dueInts("SEQ AMB NUM:1 NUM:2 NUM:3", 0, 3, 3);
        dueInts("SEQ FAIL NUM:1", 1);
    }
}
