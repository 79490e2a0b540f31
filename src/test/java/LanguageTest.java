/** Every row of the document's table of evaluation, by the outcomes of whole programs. */
final class LanguageTest {
    private static final String CLOSURE = "LAM:7 VAR:7";

    private LanguageTest() {
    }

    public static void main(String[] arguments) {
        arithmetic();
        closuresWhereIntsAreDue();
        conditions();
        choices();
        bindings();
        closures();
        assignment();
        pathsAreApart();
        limits();
        endlessPrograms();
        Checks.finish();
    }

    /** Runs the whole search: the values in order, then the number of failing paths. */
    private static void dueInts(String text, int failures, int... values) {
        dueIntsWith(6, 16, text, failures, values);
    }

    private static void dueIntsWith(int maxChoices, int maxAlloc, String text, int failures, int... values) {
        AmbEvaluator x = Checks.compiled(maxChoices, maxAlloc, text);
        for (int value : values) {
            Checks.due("next of " + text, x.next(), AmbEvaluator.SOLUTION);
            Checks.due("kind of " + text, x.kind(), AmbEvaluator.KIND_INT);
            Checks.due("value of " + text, x.value(), value);
        }
        Checks.due("last next of " + text, x.next(), AmbEvaluator.EXHAUSTED);
        Checks.dueCounts(text, x, AmbEvaluator.DONE, values.length, failures);
    }

    private static void arithmetic() {
        int[] samples = {Integer.MIN_VALUE, Integer.MIN_VALUE + 1, -65537, -2, -1, 0, 1, 2, 65536,
            Integer.MAX_VALUE - 1, Integer.MAX_VALUE};
        for (int a : samples) {
            dueInts("NUM:" + a, 0, a);
            for (int b : samples) {
                String operands = " NUM:" + a + " NUM:" + b;
                dueInts("ADD" + operands, 0, a + b);
                dueInts("SUB" + operands, 0, a - b);
                dueInts("MUL" + operands, 0, a * b);
                dueInts("LT" + operands, 0, a < b ? 1 : 0);
                dueInts("EQ" + operands, 0, a == b ? 1 : 0);
            }
        }
        dueInts("SUB SUB NUM:1 NUM:2 SUB NUM:3 MUL NUM:4 NUM:5", 0, 16);
        dueInts("LET:0 NUM:1 SUB VAR:0 SET:0 NUM:5", 0, -4);
        dueInts("LET:0 NUM:1 SUB SET:0 NUM:5 VAR:0", 0, 0);
    }

    private static void closuresWhereIntsAreDue() {
        String[] pairs = {"ADD", "SUB", "MUL", "LT", "EQ"};
        for (String pair : pairs) {
            dueInts(pair + " " + CLOSURE + " NUM:1", 1);
            dueInts(pair + " NUM:1 " + CLOSURE, 1);
            dueInts(pair + " " + CLOSURE + " " + CLOSURE, 1);
            dueInts(pair + " " + CLOSURE + " AMB NUM:1 NUM:2", 2);
            dueInts(pair + " AMB NUM:1 " + CLOSURE + " AMB FAIL " + CLOSURE, 4);
        }
        dueInts("LET:0 " + CLOSURE + " EQ VAR:0 VAR:0", 1);
        dueInts("IF " + CLOSURE + " NUM:1 NUM:2", 1);
        dueInts("IF " + CLOSURE + " AMB NUM:1 NUM:2 AMB NUM:3 NUM:4", 1);
        dueInts("REQ " + CLOSURE + " NUM:1", 1);
        dueInts("APP NUM:1 NUM:2", 1);
        dueInts("APP NUM:1 AMB NUM:2 NUM:3", 2);
        dueInts("APP NUM:1 AMB NUM:2 AMB NUM:3 " + CLOSURE, 3);
    }

    private static void conditions() {
        dueInts("IF NUM:0 NUM:1 NUM:2", 0, 2);
        dueInts("IF NUM:1 NUM:1 NUM:2", 0, 1);
        dueInts("IF NUM:-1 NUM:1 NUM:2", 0, 1);
        dueInts("IF NUM:" + Integer.MIN_VALUE + " NUM:1 NUM:2", 0, 1);
        dueInts("IF NUM:0 FAIL NUM:2", 0, 2);
        dueInts("IF NUM:1 NUM:1 FAIL", 0, 1);
        dueInts("IF NUM:1 AMB NUM:1 NUM:2 AMB NUM:3 AMB NUM:4 NUM:5", 0, 1, 2);
        dueInts("IF AMB NUM:0 NUM:1 AMB NUM:1 NUM:2 ADD NUM:3 NUM:4", 0, 7, 1, 2);
        dueInts("LET:0 NUM:1 SEQ IF NUM:0 SET:0 NUM:2 SET:0 NUM:3 VAR:0", 0, 3);
        dueInts("REQ NUM:0 NUM:2", 1);
        dueInts("REQ NUM:1 NUM:2", 0, 2);
        dueInts("REQ NUM:-7 NUM:2", 0, 2);
        dueInts("REQ NUM:0 AMB NUM:1 NUM:2", 1);
        dueInts("REQ AMB NUM:0 NUM:3 AMB NUM:1 NUM:2", 1, 1, 2);
        dueInts("REQ NUM:1 FAIL", 1);
        dueInts("FAIL", 1);
        dueInts("SEQ FAIL AMB NUM:1 NUM:2", 1);
        dueInts("SEQ AMB NUM:1 NUM:2 FAIL", 2);
        dueInts("SEQ " + CLOSURE + " NUM:2", 0, 2);
        dueInts("SEQ NUM:1 NUM:2", 0, 2);
    }

    private static void choices() {
        dueInts("AMB NUM:1 NUM:2", 0, 1, 2);
        dueInts("AMB FAIL NUM:2", 1, 2);
        dueInts("AMB NUM:1 FAIL", 1, 1);
        dueInts("AMB AMB NUM:1 NUM:2 AMB NUM:3 NUM:4", 0, 1, 2, 3, 4);
        dueInts("ADD AMB NUM:1 NUM:2 AMB NUM:10 NUM:20", 0, 11, 21, 12, 22);
        dueInts("AMB ADD AMB NUM:1 NUM:2 NUM:3 SUB NUM:1 NUM:1", 0, 4, 5, 0);
        dueInts("LET:0 AMB NUM:1 NUM:2 LET:1 AMB NUM:1 NUM:2 REQ EQ ADD VAR:0 VAR:1 NUM:3 VAR:0", 2, 1, 2);
    }

    private static void bindings() {
        dueInts("LET:0 NUM:1 LET:0 ADD VAR:0 NUM:5 VAR:0", 0, 6);
        dueInts("LET:0 NUM:1 ADD LET:0 NUM:5 VAR:0 VAR:0", 0, 6);
        dueInts("LET:0 NUM:1 SUB LET:0 NUM:5 SET:0 NUM:9 VAR:0", 0, 8);
        dueInts("LET:0 NUM:1 LET:7 NUM:2 LET:3 NUM:3 SUB VAR:0 MUL VAR:7 VAR:3", 0, -5);
        dueInts("LET:0 NUM:4 VAR:0", 0, 4);
        dueInts("LET:0 FAIL NUM:4", 1);
        AmbEvaluator x = Checks.compiled(6, 16, "LET:0 " + CLOSURE + " VAR:0");
        x.next();
        Checks.dueLast("a closure through a variable", x, AmbEvaluator.KIND_CLOSURE, 1, "", 2);
    }

    private static void closures() {
        dueInts("APP LAM:0 ADD VAR:0 NUM:1 NUM:4", 0, 5);
        dueInts("APP APP LAM:0 LAM:1 SUB VAR:0 VAR:1 NUM:10 NUM:3", 0, 7);
        dueInts("LET:0 NUM:1 LET:1 LAM:2 VAR:0 LET:0 NUM:2 APP VAR:1 NUM:9", 0, 1);
        dueInts("LET:0 NUM:1 LET:1 LAM:0 VAR:0 ADD APP VAR:1 NUM:9 VAR:0", 0, 10);
        dueInts("LET:1 LAM:0 MUL VAR:0 AMB NUM:2 NUM:3 ADD APP VAR:1 NUM:1 APP VAR:1 NUM:10", 0, 22, 32, 23, 33);
        dueInts("APP AMB LAM:0 VAR:0 LAM:0 FAIL AMB NUM:1 NUM:2", 2, 1, 2);
        dueInts("APP LAM:0 APP VAR:0 NUM:3 LAM:1 MUL VAR:1 VAR:1", 0, 9);
        dueInts("APP LAM:0 NUM:3 FAIL", 1);
        dueInts("APP FAIL AMB NUM:1 NUM:2", 1);
        dueInts("LET:0 NUM:0 APP SEQ SET:0 NUM:1 LAM:1 VAR:1 VAR:0", 0, 1);
        dueInts("LET:0 NUM:0 APP LAM:1 VAR:0 SET:0 NUM:8", 0, 8);
        // Recursion through a variable that is set to its own closure: 5 + 4 + 3 + 2 + 1.
        dueInts("LET:0 NUM:0 SEQ SET:0 LAM:1 IF VAR:1 ADD VAR:1 APP VAR:0 SUB VAR:1 NUM:1 NUM:0 APP VAR:0 NUM:5",
            0, 15);
    }

    private static void assignment() {
        dueInts("LET:0 NUM:1 SET:0 NUM:6", 0, 6);
        dueInts("LET:0 NUM:1 SEQ SET:0 NUM:6 VAR:0", 0, 6);
        dueInts("LET:0 NUM:1 SEQ SET:0 ADD VAR:0 NUM:6 VAR:0", 0, 7);
        dueInts("LET:0 NUM:1 SEQ LET:0 NUM:5 SET:0 NUM:6 VAR:0", 0, 1);
        dueInts("LET:0 NUM:1 LET:1 VAR:0 SEQ SET:0 NUM:6 VAR:1", 0, 1);
        dueInts("LET:0 NUM:1 SEQ APP LAM:0 SET:0 NUM:9 VAR:0 VAR:0", 0, 1);
        dueInts("LET:0 NUM:1 LET:1 LAM:2 SET:0 VAR:2 SEQ APP VAR:1 NUM:9 VAR:0", 0, 9);
        dueInts("LET:0 NUM:1 LET:1 LAM:2 VAR:0 SEQ SET:0 NUM:9 APP VAR:1 NUM:5", 0, 9);
        // Two closures over one location: one sets what the other reads.
        dueInts("LET:0 NUM:1 LET:1 LAM:2 SET:0 VAR:2 LET:3 LAM:2 VAR:0 SEQ APP VAR:1 NUM:4 APP VAR:3 NUM:0", 0, 4);
        // A location of its own for each application: the counter of one is not the other's.
        dueInts("LET:0 LAM:1 LAM:2 SET:1 ADD VAR:1 VAR:2 LET:3 APP VAR:0 NUM:10 LET:4 APP VAR:0 NUM:20 "
            + "SEQ APP VAR:3 NUM:1 ADD APP VAR:3 NUM:1 MUL NUM:100 APP VAR:4 NUM:1", 0, 2112);
        dueInts("LET:0 LAM:1 NUM:3 SEQ SET:0 NUM:5 ADD VAR:0 NUM:1", 0, 6);
        dueInts("LET:0 NUM:3 SEQ SET:0 LAM:1 NUM:5 ADD VAR:0 NUM:1", 1);
    }

    private static void pathsAreApart() {
        dueInts("ADD AMB FAIL NUM:1 NUM:2", 1, 3);
        dueInts("ADD NUM:1 MUL NUM:2 AMB REQ NUM:0 NUM:4 NUM:5", 1, 11);
        dueInts("LET:0 NUM:0 SEQ AMB SET:0 NUM:5 NUM:1 VAR:0", 0, 5, 0);
        dueInts("LET:0 NUM:0 SEQ AMB SEQ SET:0 NUM:5 FAIL NUM:1 VAR:0", 1, 0);
        dueInts("LET:0 NUM:0 SEQ SET:0 ADD VAR:0 NUM:1 SEQ AMB NUM:1 NUM:2 VAR:0", 0, 1, 1);
        dueIntsWith(6, 2, "LET:0 AMB NUM:1 NUM:2 LET:1 AMB NUM:3 NUM:4 ADD VAR:0 VAR:1", 0, 4, 5, 5, 6);
    }

    private static void limits() {
        dueIntsWith(1, 1, "AMB AMB NUM:1 NUM:2 NUM:3", 1, 3);
        dueIntsWith(1, 1, "ADD AMB NUM:1 NUM:2 AMB NUM:1 NUM:2", 2);
        dueIntsWith(2, 1, "ADD AMB NUM:1 NUM:2 AMB NUM:1 NUM:2", 0, 2, 3, 3, 4);
        dueIntsWith(6, 1, "LET:0 NUM:1 NUM:2", 0, 2);
        dueIntsWith(6, 1, "LET:0 LAM:1 NUM:1 NUM:2", 1);
        dueIntsWith(6, 2, "LET:0 LAM:1 NUM:1 NUM:2", 0, 2);
        dueIntsWith(6, 1, "APP LAM:1 NUM:1 NUM:2", 1);
        dueIntsWith(6, 2, "APP LAM:1 NUM:1 NUM:2", 0, 1);
        dueIntsWith(6, 1, "SEQ LAM:1 NUM:1 SEQ LAM:1 NUM:2 NUM:3", 1);
        // The allocation of LET and APP comes after their operands, so these make their choice first.
        dueIntsWith(6, 1, "LET:0 NUM:1 LET:1 AMB NUM:1 NUM:2 NUM:3", 2);
        dueIntsWith(6, 1, "APP LAM:0 NUM:1 AMB NUM:1 NUM:2", 2);
        dueIntsWith(6, 1, "LET:0 NUM:1 LET:1 NUM:1 AMB NUM:1 NUM:2", 1);
        AmbEvaluator x = Checks.compiled(6, 1, "AMB LET:0 NUM:1 LET:0 NUM:2 NUM:3 LAM:0 VAR:0");
        Checks.due("next", x.next(), AmbEvaluator.SOLUTION);
        Checks.dueLast("a fresh count of allocations", x, AmbEvaluator.KIND_CLOSURE, 6, "1", 1);
        Checks.dueCounts("a fresh count of allocations", x, AmbEvaluator.READY, 1, 1);
    }

    private static void endlessPrograms() {
        String self = "LET:0 LAM:1 APP VAR:1 VAR:1 APP VAR:0 VAR:0";
        for (int maxAlloc = 1; maxAlloc <= 16; maxAlloc++) {
            dueIntsWith(6, maxAlloc, self, 1);
        }
        dueInts("LET:0 LAM:1 AMB APP VAR:1 VAR:1 NUM:1 APP VAR:0 VAR:0", 1, 1, 1, 1, 1, 1, 1);
        dueInts("LET:0 LAM:1 AMB NUM:1 APP VAR:1 VAR:1 APP VAR:0 VAR:0", 1, 1, 1, 1, 1, 1, 1);
        dueInts("LET:0 LAM:1 ADD AMB NUM:1 NUM:1 APP VAR:1 VAR:1 APP VAR:0 VAR:0", 64);
        // Many open expressions in each of many applications.
        dueInts("LET:0 LAM:1 " + "ADD NUM:1 ".repeat(11) + "APP VAR:1 VAR:1 APP VAR:0 VAR:0", 1);
        dueInts("LET:0 NUM:0 SEQ SET:0 LAM:1 IF VAR:1 " + "SET:1 ".repeat(16)
            + "APP VAR:0 SUB VAR:1 NUM:1 NUM:7 APP VAR:0 NUM:13", 0, 7);
        dueInts("LET:0 NUM:0 SEQ SET:0 LAM:1 IF VAR:1 " + "SET:1 ".repeat(16)
            + "APP VAR:0 SUB VAR:1 NUM:1 NUM:7 APP VAR:0 NUM:14", 1);
    }
}
