/** Each promise of the document in turn: ordinary inputs, its named edges, wrong inputs. */
final class PromisesTest {
    private static final int LEAST = Integer.MIN_VALUE;
    private static final int MOST = Integer.MAX_VALUE;

    private PromisesTest() {
    }

    public static void main(String[] arguments) {
        promise1Construction();
        promise2Reset();
        promise3Token();
        promise4Compile();
        promise4Scope();
        promise5Next();
        promise5NoSuccess();
        promise6Restart();
        promises7To13Queries();
        promise12ChoiceBits();
        promises14To16Tokens();
        Checks.finish();
    }

    /** n times AMB in the second operand of the one before: success i takes i ones and a zero. */
    private static String chainOfChoices(int n) {
        StringBuilder text = new StringBuilder();
        for (int i = 0; i < n; i++) {
            text.append("AMB NUM:").append(i).append(' ');
        }
        return text.append("NUM:").append(n).toString();
    }

    /** A program whose only path makes n allocations. */
    private static String chainOfAllocations(int n) {
        String text = "LET:0 LAM:1 VAR:1 ".repeat(n / 2);
        return text + (n % 2 == 1 ? "LAM:2 NUM:4" : "NUM:3");
    }

    private static void dueLimits(AmbEvaluator x, int choices, int allocs) {
        String what = "limits " + choices + ", " + allocs;
        x.reset();
        Checks.feed(x, chainOfChoices(8));
        Checks.due(what, x.compile(), AmbEvaluator.OK);
        for (int i = 0; i < choices; i++) {
            Checks.due(what + " next", x.next(), AmbEvaluator.SOLUTION);
            Checks.dueLast(what, x, AmbEvaluator.KIND_INT, i, "1".repeat(i) + "0", 0);
        }
        Checks.due(what + " next", x.next(), AmbEvaluator.EXHAUSTED);
        Checks.dueCounts(what, x, AmbEvaluator.DONE, choices, 1);

        x.reset();
        Checks.feed(x, chainOfAllocations(allocs));
        Checks.due(what, x.compile(), AmbEvaluator.OK);
        Checks.due(what + " at the limit", x.next(), AmbEvaluator.SOLUTION);
        Checks.due(what + " allocCount", x.allocCount(), allocs);

        x.reset();
        Checks.feed(x, chainOfAllocations(allocs + 1));
        Checks.due(what, x.compile(), AmbEvaluator.OK);
        Checks.due(what + " over the limit", x.next(), AmbEvaluator.EXHAUSTED);
        Checks.dueCounts(what, x, AmbEvaluator.DONE, 0, 1);
    }

    private static void promise1Construction() {
        int[] choices = {LEAST, -1, 0, 1, 2, 3, 4, 5, 6, 7, MOST};
        int[] allocs = {LEAST, -1, 0, 1, 2, 8, 15, 16, 17, 100, MOST};
        for (int i = 0; i < choices.length; i++) {
            for (int j = 0; j < allocs.length; j++) {
                AmbEvaluator x = new AmbEvaluator(choices[i], allocs[j]);
                Checks.dueCounts("new", x, AmbEvaluator.EDIT, 0, 0);
                Checks.due("new, tokenCount", x.tokenCount(), 0);
                Checks.dueCleared("new", x);
                int dueChoices = Math.max(1, Math.min(6, choices[i]));
                int dueAllocs = Math.max(1, Math.min(16, allocs[j]));
                dueLimits(x, dueChoices, dueAllocs);
            }
        }
    }

    private static void dueAsReset(String what, AmbEvaluator x) {
        x.reset();
        Checks.dueCounts(what, x, AmbEvaluator.EDIT, 0, 0);
        Checks.due(what + ", tokenCount", x.tokenCount(), 0);
        Checks.due(what + ", tokenKind(0)", x.tokenKind(0), -1);
        Checks.due(what + ", tokenArg(0)", x.tokenArg(0), 0);
        Checks.dueCleared(what, x);
        Checks.due(what + ", compile", x.compile(), AmbEvaluator.ERR_EMPTY);
        Checks.due(what + ", next", x.next(), AmbEvaluator.REFUSED);
        Checks.due(what + ", restart", x.restart(), false);
    }

    private static void promise2Reset() {
        AmbEvaluator x = new AmbEvaluator(2, 3);
        dueAsReset("reset of a new object", x);
        Checks.feed(x, "ADD NUM:1");
        dueAsReset("reset in EDIT", x);
        String program = "AMB FAIL AMB NUM:7 LET:0 NUM:9 VAR:0";
        Checks.feed(x, program);
        x.compile();
        dueAsReset("reset before next", x);
        Checks.feed(x, program);
        x.compile();
        Checks.due("next", x.next(), AmbEvaluator.SOLUTION);
        Checks.dueCounts("before reset", x, AmbEvaluator.READY, 1, 1);
        dueAsReset("reset in READY", x);
        Checks.feed(x, program);
        x.compile();
        x.next();
        x.next();
        Checks.dueLast("before reset", x, AmbEvaluator.KIND_INT, 9, "11", 1);
        Checks.due("next", x.next(), AmbEvaluator.EXHAUSTED);
        dueAsReset("reset in DONE", x);
        dueLimits(x, 2, 3);
    }

    private static boolean named(int kind) {
        return kind == AmbEvaluator.VAR || kind == AmbEvaluator.LET || kind == AmbEvaluator.LAM
            || kind == AmbEvaluator.SET;
    }

    private static void promise3Token() {
        AmbEvaluator x = new AmbEvaluator(6, 16);
        int[] wrongKinds = {LEAST, -2, -1, 16, 17, 32, MOST};
        for (int kind : wrongKinds) {
            Checks.due("kind " + kind, x.token(kind, 0), false);
            Checks.due("tokenCount after kind " + kind, x.tokenCount(), 0);
        }
        int[] args = {LEAST, -1, 0, 1, 6, 7, 8, 9, MOST};
        for (int kind = 0; kind <= 15; kind++) {
            for (int arg : args) {
                x.reset();
                boolean taken = !named(kind) || (arg >= 0 && arg <= 7);
                String what = Checks.NAMES[kind] + " with arg " + arg;
                Checks.due(what, x.token(kind, arg), taken);
                Checks.due(what + ", tokenCount", x.tokenCount(), taken ? 1 : 0);
                boolean kept = taken && (named(kind) || kind == AmbEvaluator.NUM);
                Checks.due(what + ", tokenKind", x.tokenKind(0), taken ? kind : -1);
                Checks.due(what + ", tokenArg", x.tokenArg(0), kept ? arg : 0);
                Checks.dueCounts(what, x, AmbEvaluator.EDIT, 0, 0);
                Checks.dueCleared(what, x);
            }
        }
        promise3Full();
        promise3OtherPhases();
    }

    private static void promise3Full() {
        AmbEvaluator x = new AmbEvaluator(6, 16);
        for (int i = 0; i < AmbEvaluator.MAX_TOKENS; i++) {
            Checks.due("token " + i, x.token(AmbEvaluator.NUM, 100 + i), true);
            Checks.due("tokenCount", x.tokenCount(), i + 1);
        }
        Checks.due("token 32", x.token(AmbEvaluator.NUM, 5), false);
        Checks.due("token 32", x.token(AmbEvaluator.SEQ, 0), false);
        Checks.due("tokenCount when full", x.tokenCount(), 32);
        for (int i = 0; i < AmbEvaluator.MAX_TOKENS; i++) {
            Checks.due("tokenArg " + i, x.tokenArg(i), 100 + i);
        }
        Checks.due("compile of too many", x.compile(), AmbEvaluator.ERR_EXTRA);
        x.reset();
        Checks.feed(x, "SET:3 ".repeat(32));
        Checks.due("compile of 32 SET", x.compile(), AmbEvaluator.ERR_INCOMPLETE);
        x.reset();
        Checks.feed(x, "LET:0 NUM:1 ".repeat(15) + "SET:0 NUM:6");
        Checks.due("compile of a full program", x.compile(), AmbEvaluator.OK);
        Checks.due("next of a full program", x.next(), AmbEvaluator.SOLUTION);
        Checks.dueLast("full program", x, AmbEvaluator.KIND_INT, 6, "", 15);
    }

    private static void promise3OtherPhases() {
        AmbEvaluator x = Checks.compiled(6, 16, "NUM:4");
        Checks.due("token in READY", x.token(AmbEvaluator.NUM, 1), false);
        x.next();
        Checks.due("token in READY after a solution", x.token(AmbEvaluator.NUM, 1), false);
        Checks.dueLast("after a refused token", x, AmbEvaluator.KIND_INT, 4, "", 0);
        x.next();
        Checks.due("token in DONE", x.token(AmbEvaluator.NUM, 1), false);
        Checks.due("tokenCount in DONE", x.tokenCount(), 1);
        Checks.due("tokenArg in DONE", x.tokenArg(0), 4);
        Checks.dueCounts("after a refused token", x, AmbEvaluator.DONE, 1, 0);
    }

    private static void dueCompile(String text, int want) {
        AmbEvaluator x = new AmbEvaluator(6, 16);
        Checks.feed(x, text);
        int count = x.tokenCount();
        Checks.due("compile of '" + text + "'", x.compile(), want);
        Checks.dueCounts(text, x, want == AmbEvaluator.OK ? AmbEvaluator.READY : AmbEvaluator.EDIT, 0, 0);
        Checks.dueCleared(text, x);
        Checks.due("tokenCount of " + text, x.tokenCount(), count);
        if (want == AmbEvaluator.OK) {
            Checks.due("second compile of " + text, x.compile(), AmbEvaluator.REFUSED);
            Checks.due("phase after it", x.phase(), AmbEvaluator.READY);
        } else {
            Checks.due("second compile of " + text, x.compile(), want);
            Checks.due("next after it", x.next(), AmbEvaluator.REFUSED);
            Checks.due("restart after it", x.restart(), false);
            Checks.due("token after it", x.token(AmbEvaluator.NUM, 0), true);
        }
    }

    private static void promise4Compile() {
        dueCompile("", AmbEvaluator.ERR_EMPTY);
        int[] arity = {0, 0, 2, 2, 2, 2, 2, 3, 2, 0, 2, 2, 1, 2, 1, 2};
        for (int kind = 0; kind <= 15; kind++) {
            String name = Checks.NAMES[kind] + ":0";
            String around = "LET:0 NUM:0 " + name;
            for (int operands = 0; operands <= 4; operands++) {
                int want = operands < arity[kind] ? AmbEvaluator.ERR_INCOMPLETE
                    : operands > arity[kind] ? AmbEvaluator.ERR_EXTRA : AmbEvaluator.OK;
                dueCompile(around + " NUM:1".repeat(operands), want);
            }
        }
        dueCompile("VAR:0 NUM:1", AmbEvaluator.ERR_EXTRA);
        dueCompile("NUM:1 ADD", AmbEvaluator.ERR_EXTRA);
        dueCompile("ADD VAR:0", AmbEvaluator.ERR_INCOMPLETE);
        dueCompile("SET:0", AmbEvaluator.ERR_INCOMPLETE);
        promise4Refused();
    }

    private static void promise4Refused() {
        AmbEvaluator x = Checks.compiled(6, 16, "AMB FAIL AMB NUM:8 NUM:9");
        x.next();
        Checks.due("compile in READY", x.compile(), AmbEvaluator.REFUSED);
        Checks.dueCounts("compile in READY", x, AmbEvaluator.READY, 1, 1);
        Checks.dueLast("compile in READY", x, AmbEvaluator.KIND_INT, 8, "10", 0);
        Checks.due("next", x.next(), AmbEvaluator.SOLUTION);
        Checks.dueLast("next goes on", x, AmbEvaluator.KIND_INT, 9, "11", 0);
        x.next();
        Checks.due("compile in DONE", x.compile(), AmbEvaluator.REFUSED);
        Checks.dueCounts("compile in DONE", x, AmbEvaluator.DONE, 2, 1);
        Checks.dueLast("compile in DONE", x, AmbEvaluator.KIND_INT, 9, "11", 0);
        x.reset();
        Checks.feed(x, "LET:1 NUM:2 SEQ VAR:0");
        Checks.due("compile", x.compile(), AmbEvaluator.ERR_INCOMPLETE);
        Checks.feed(x, "VAR:1");
        Checks.due("compile", x.compile(), AmbEvaluator.ERR_UNBOUND);
        Checks.feed(x, "VAR:1");
        Checks.due("compile", x.compile(), AmbEvaluator.ERR_EXTRA);
    }

    private static void promise4Scope() {
        String[] bound = {"LET:0 NUM:1 VAR:0", "LET:7 NUM:1 SET:7 VAR:7", "LAM:3 VAR:3", "LAM:3 SET:3 NUM:1",
            "LET:0 LAM:0 VAR:0 VAR:0", "LET:0 LET:0 NUM:1 VAR:0 VAR:0", "LET:0 NUM:1 LET:0 VAR:0 VAR:0",
            "LAM:0 LAM:1 ADD VAR:0 VAR:1", "LET:0 NUM:1 LET:1 NUM:2 SEQ SET:0 VAR:1 SET:1 VAR:0",
            "LET:0 NUM:1 IF NUM:1 NUM:2 VAR:0", "LET:0 NUM:1 SEQ LAM:0 NUM:2 VAR:0"};
        for (String text : bound) {
            dueCompile(text, AmbEvaluator.OK);
        }
        String[] unbound = {"VAR:0", "SET:0 NUM:1", "LET:0 VAR:0 NUM:1", "LET:0 SET:0 NUM:1 NUM:1",
            "LET:0 NUM:1 VAR:1", "LAM:0 VAR:1", "LAM:1 SET:0 NUM:1", "ADD LET:0 NUM:1 VAR:0 VAR:0",
            "ADD LAM:0 VAR:0 VAR:0", "SEQ VAR:0 LET:0 NUM:1 VAR:0", "LET:0 LET:1 NUM:1 VAR:1 VAR:1",
            "LET:0 LET:1 VAR:0 NUM:1 NUM:1", "IF NUM:1 NUM:2 VAR:5", "LET:1 LAM:0 NUM:1 VAR:0",
            "LET:0 NUM:1 SET:1 VAR:0", "APP LAM:0 NUM:1 SET:0 NUM:2", "SEQ NUM:0 ADD VAR:0 NUM:0"};
        for (String text : unbound) {
            dueCompile(text, AmbEvaluator.ERR_UNBOUND);
        }
    }

    private static void promise5Next() {
        AmbEvaluator x = new AmbEvaluator(6, 16);
        Checks.feed(x, "AMB AMB NUM:1 FAIL AMB");
        Checks.due("next in EDIT", x.next(), AmbEvaluator.REFUSED);
        Checks.dueCounts("next in EDIT", x, AmbEvaluator.EDIT, 0, 0);
        Checks.dueCleared("next in EDIT", x);
        Checks.feed(x, "FAIL AMB NUM:2 FAIL");
        Checks.due("compile", x.compile(), AmbEvaluator.OK);
        Checks.due("first next", x.next(), AmbEvaluator.SOLUTION);
        Checks.dueCounts("first next", x, AmbEvaluator.READY, 1, 0);
        Checks.dueLast("first next", x, AmbEvaluator.KIND_INT, 1, "00", 0);
        Checks.due("second next", x.next(), AmbEvaluator.SOLUTION);
        Checks.dueCounts("second next", x, AmbEvaluator.READY, 2, 2);
        Checks.dueLast("second next", x, AmbEvaluator.KIND_INT, 2, "110", 0);
        for (int i = 0; i < 3; i++) {
            Checks.due("next at the end", x.next(), AmbEvaluator.EXHAUSTED);
            Checks.dueCounts("next at the end", x, AmbEvaluator.DONE, 2, 3);
            Checks.dueLast("next at the end", x, AmbEvaluator.KIND_INT, 2, "110", 0);
            Checks.due("tokens at the end", x.tokenCount(), 9);
        }
        x = Checks.compiled(6, 16, "LET:0 AMB NUM:1 NUM:2 SUB MUL VAR:0 NUM:10 AMB VAR:0 SET:0 NUM:5");
        int[] values = {9, 5, 18, 15};
        String[] bits = {"00", "01", "10", "11"};
        for (int i = 0; i < 4; i++) {
            Checks.due("next " + i, x.next(), AmbEvaluator.SOLUTION);
            Checks.dueCounts("next " + i, x, AmbEvaluator.READY, i + 1, 0);
            Checks.dueLast("next " + i, x, AmbEvaluator.KIND_INT, values[i], bits[i], 1);
        }
        Checks.due("next after the last", x.next(), AmbEvaluator.EXHAUSTED);
        Checks.dueCounts("next after the last", x, AmbEvaluator.DONE, 4, 0);
    }

    private static void promise5NoSuccess() {
        String[] programs = {"FAIL", "AMB FAIL FAIL", "AMB AMB FAIL FAIL AMB FAIL FAIL", "REQ NUM:0 NUM:1",
            "ADD AMB AMB NUM:1 NUM:2 AMB NUM:3 NUM:4 AMB FAIL FAIL"};
        int[] failures = {1, 2, 4, 1, 8};
        for (int i = 0; i < programs.length; i++) {
            AmbEvaluator x = Checks.compiled(6, 16, programs[i]);
            Checks.dueCounts(programs[i] + " compiled", x, AmbEvaluator.READY, 0, 0);
            Checks.due(programs[i], x.next(), AmbEvaluator.EXHAUSTED);
            Checks.dueCounts(programs[i], x, AmbEvaluator.DONE, 0, failures[i]);
            Checks.dueCleared(programs[i], x);
            Checks.due(programs[i] + " again", x.next(), AmbEvaluator.EXHAUSTED);
            Checks.dueCounts(programs[i] + " again", x, AmbEvaluator.DONE, 0, failures[i]);
        }
    }

    private static void dueRestarted(String what, AmbEvaluator x) {
        Checks.due(what, x.restart(), true);
        Checks.dueCounts(what, x, AmbEvaluator.READY, 0, 0);
        Checks.dueCleared(what, x);
        Checks.due(what + ", tokenCount", x.tokenCount(), 10);
    }

    private static void dueWholeSearch(String what, AmbEvaluator x) {
        Checks.due(what, x.next(), AmbEvaluator.SOLUTION);
        Checks.dueCounts(what, x, AmbEvaluator.READY, 1, 1);
        Checks.dueLast(what, x, AmbEvaluator.KIND_CLOSURE, 3, "10", 1);
        Checks.due(what, x.next(), AmbEvaluator.SOLUTION);
        Checks.dueCounts(what, x, AmbEvaluator.READY, 2, 1);
        Checks.dueLast(what, x, AmbEvaluator.KIND_INT, 5, "11", 2);
        Checks.due(what, x.next(), AmbEvaluator.EXHAUSTED);
        Checks.dueCounts(what, x, AmbEvaluator.DONE, 2, 1);
    }

    private static void promise6Restart() {
        AmbEvaluator x = new AmbEvaluator(2, 2);
        Checks.due("restart when new", x.restart(), false);
        Checks.feed(x, "AMB FAIL AMB LAM:1 VAR:1 LET:0");
        Checks.due("restart in EDIT", x.restart(), false);
        Checks.dueCounts("restart in EDIT", x, AmbEvaluator.EDIT, 0, 0);
        Checks.due("restart in EDIT, tokenCount", x.tokenCount(), 6);
        Checks.feed(x, "NUM:5 LET:1 NUM:6 VAR:0");
        Checks.due("compile", x.compile(), AmbEvaluator.OK);
        dueRestarted("restart before next", x);
        for (int nexts = 0; nexts <= 4; nexts++) {
            for (int i = 0; i < nexts; i++) {
                Checks.due("next " + i, x.next(), i < 2 ? AmbEvaluator.SOLUTION : AmbEvaluator.EXHAUSTED);
            }
            Checks.due("phase", x.phase(), nexts < 3 ? AmbEvaluator.READY : AmbEvaluator.DONE);
            dueRestarted("restart after " + nexts + " calls of next", x);
            dueWholeSearch("restart after " + nexts + " calls of next", x);
            dueRestarted("restart after a whole search", x);
        }
        x.reset();
        Checks.due("restart after reset", x.restart(), false);
        dueLimits(x, 2, 2);
    }

    private static void promises7To13Queries() {
        AmbEvaluator x = Checks.compiled(6, 16, "AMB NUM:-5 AMB LAM:0 VAR:0 APP LAM:1 LAM:2 VAR:1 NUM:0");
        Checks.due("phase", x.phase(), AmbEvaluator.READY);
        x.next();
        for (int i = 0; i < 2; i++) {
            Checks.dueLast("an int", x, AmbEvaluator.KIND_INT, -5, "0", 0);
            Checks.dueCounts("an int", x, AmbEvaluator.READY, 1, 0);
        }
        x.next();
        Checks.dueLast("a closure", x, AmbEvaluator.KIND_CLOSURE, 3, "10", 1);
        x.next();
        Checks.dueLast("a closure from a closure", x, AmbEvaluator.KIND_CLOSURE, 7, "11", 3);
        x.next();
        Checks.dueCounts("at the end", x, AmbEvaluator.DONE, 3, 0);
        Checks.dueLast("kept at the end", x, AmbEvaluator.KIND_CLOSURE, 7, "11", 3);
        x = Checks.compiled(6, 16, "LAM:0 VAR:0");
        x.next();
        Checks.dueLast("the closure at position 0", x, AmbEvaluator.KIND_CLOSURE, 0, "", 1);
        x = Checks.compiled(6, 16, "NUM:0");
        x.next();
        Checks.dueLast("the int 0", x, AmbEvaluator.KIND_INT, 0, "", 0);
        x = Checks.compiled(6, 16, "AMB AMB FAIL NUM:" + LEAST + " NUM:" + MOST);
        x.next();
        Checks.dueCounts("a failure first", x, AmbEvaluator.READY, 1, 1);
        Checks.dueLast("the least int", x, AmbEvaluator.KIND_INT, LEAST, "01", 0);
        x.next();
        Checks.dueLast("the greatest int", x, AmbEvaluator.KIND_INT, MOST, "1", 0);
        Checks.dueCounts("READY until next finds no path", x, AmbEvaluator.READY, 2, 1);
    }

    private static void promise12ChoiceBits() {
        AmbEvaluator x = Checks.compiled(6, 16, "LET:0 LAM:1 ADD VAR:1 AMB NUM:0 NUM:1 "
            + "LET:1 LAM:2 APP VAR:0 APP VAR:0 MUL VAR:2 NUM:4 APP VAR:1 APP VAR:1 APP VAR:1 NUM:0");
        for (int n = 0; n < 64; n++) {
            Checks.due("next " + n, x.next(), AmbEvaluator.SOLUTION);
            Checks.due("choiceCount " + n, x.choiceCount(), 6);
            for (int i = 0; i < 6; i++) {
                Checks.due("choiceBit(" + i + ") of " + n, x.choiceBit(i), (n >> (5 - i)) & 1);
            }
            int[] outside = {LEAST, -32, -1, 6, 7, 31, 32, 37, 64, MOST};
            for (int i : outside) {
                Checks.due("choiceBit(" + i + ")", x.choiceBit(i), -1);
            }
            Checks.due("allocCount " + n, x.allocCount(), 13);
        }
        Checks.due("next 64", x.next(), AmbEvaluator.EXHAUSTED);
        Checks.dueCounts("64 paths", x, AmbEvaluator.DONE, 64, 0);
    }

    private static void promises14To16Tokens() {
        AmbEvaluator x = new AmbEvaluator(6, 16);
        int[] outside = {LEAST, -1, 0, 1, 31, 32, 33, MOST};
        for (int i : outside) {
            Checks.due("tokenKind(" + i + ") when empty", x.tokenKind(i), -1);
            Checks.due("tokenArg(" + i + ") when empty", x.tokenArg(i), 0);
        }
        String text = "LET:5 NUM:-9 SEQ SET:5 NUM:77 LAM:6 IF VAR:5 VAR:6 FAIL";
        Checks.feed(x, text);
        int[] tokens = Checks.parse(text);
        for (int round = 0; round < 3; round++) {
            Checks.due("tokenCount", x.tokenCount(), tokens.length / 2);
            for (int i = 0; i < tokens.length / 2; i++) {
                Checks.due("tokenKind(" + i + ")", x.tokenKind(i), tokens[2 * i]);
                Checks.due("tokenArg(" + i + ")", x.tokenArg(i), tokens[2 * i + 1]);
            }
            int[] wrong = {LEAST, -1, 10, 11, 32, MOST};
            for (int i : wrong) {
                Checks.due("tokenKind(" + i + ")", x.tokenKind(i), -1);
                Checks.due("tokenArg(" + i + ")", x.tokenArg(i), 0);
            }
            x.compile();
            x.next();
            Checks.dueLast(text, x, AmbEvaluator.KIND_CLOSURE, 5, "", 2);
        }
        x.reset();
        Checks.feed(x, "NUM:1");
        Checks.due("tokenKind behind a shorter program", x.tokenKind(1), -1);
        Checks.due("tokenArg behind a shorter program", x.tokenArg(1), 0);
    }
}
