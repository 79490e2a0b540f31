/** Promise 4, with the program's form and scope, sentence by sentence. */
final class CompileTest {
    private CompileTest() {
    }

    public static void main(String[] arguments) {
        refusedOutsideEdit();
        empty();
        extra();
        incomplete();
        exactlyItsArity();
        everyToken();
        positionsFromZero();
        unbound();
        firstThatFails();
        letBindsInBodyOnly();
        lamBindsInBody();
        insideAnEnclosingBody();
        errorChangesNothing();
        furtherTokens();
        okToReady();
        okCounts();
        okClears();
        okAtTheFirstPath();
        okKeepsTokens();
        Checks.finish();
    }

    private static void dueCompile(String text, int want) {
        Checks.due("compile of '" + text + "'", Checks.fed(6, 16, text).compile(), want);
    }

    private static void dueEach(int want, String... texts) {
        for (String text : texts) {
            dueCompile(text, want);
        }
    }

    private static void refusedOutsideEdit() {
        Checks.sentence("Promise 4", "compile() answers REFUSED and changes nothing if the phase is not EDIT.");
        for (Points.Point point : Points.in(AmbEvaluator.READY, AmbEvaluator.DONE)) {
            Points.dueNoChange("compile", point,
                x -> Checks.due("compile at the point: " + point.name, x.compile(), AmbEvaluator.REFUSED));
        }
        AmbEvaluator x = Checks.compiled(6, 16, Programs.MIXED);
        x.next();
        Checks.due("compile", x.compile(), AmbEvaluator.REFUSED);
        Checks.dueLast("the last solution stays", x, AmbEvaluator.KIND_CLOSURE, 3, "01", 1);
        Checks.dueCounts("the counts stay", x, AmbEvaluator.READY, 1, 1);
        x.next();
        Checks.dueLast("the search goes on", x, AmbEvaluator.KIND_INT, 5, "10", 1);
    }

    private static void empty() {
        Checks.sentence("Promise 4", "No tokens: ERR_EMPTY.");
        dueCompile("", AmbEvaluator.ERR_EMPTY);
        AmbEvaluator x = Checks.fed(6, 16, "NUM:1 ".repeat(32));
        x.reset();
        Checks.due("after a reset", x.compile(), AmbEvaluator.ERR_EMPTY);
        Checks.due("again", x.compile(), AmbEvaluator.ERR_EMPTY);
        Checks.due("a token that is refused", x.token(16, 0), false);
        Checks.due("still empty", x.compile(), AmbEvaluator.ERR_EMPTY);
    }

    private static void extra() {
        Checks.sentence("Promise 4", "Before token i, if need is 0, the answer is ERR_EXTRA.");
        String[] whole = {"NUM:1", "FAIL", "ADD NUM:1 NUM:2", "LET:0 NUM:1 VAR:0", "LAM:0 VAR:0", "IF FAIL FAIL FAIL",
            "SEQ NUM:1 ".repeat(15) + "NUM:2"};
        for (String text : whole) {
            dueCompile(text, AmbEvaluator.OK);
            for (String name : Checks.NAMES) {
                dueCompile(text + " " + name + ":0", AmbEvaluator.ERR_EXTRA);
            }
        }
        dueEach(AmbEvaluator.ERR_EXTRA, "NUM:1 NUM:2 NUM:3", "NUM:1 ADD NUM:2", "NUM:1 IF", "FAIL ".repeat(32));
        // 31 tokens that are a program: the last position of all is the extra one.
        dueCompile("LET:0 NUM:1 ".repeat(15) + "NUM:2 NUM:3", AmbEvaluator.ERR_EXTRA);
    }

    private static void incomplete() {
        Checks.sentence("Promise 4", "After the scan, if need > 0: ERR_INCOMPLETE.");
        for (int kind = 0; kind <= 15; kind++) {
            if (Checks.ARITY[kind] > 0) {
                dueCompile(Checks.NAMES[kind] + ":0", AmbEvaluator.ERR_INCOMPLETE);
                dueCompile((Checks.NAMES[kind] + ":0 ").repeat(32), AmbEvaluator.ERR_INCOMPLETE);
            }
        }
        dueEach(AmbEvaluator.ERR_INCOMPLETE, "ADD NUM:1", "IF NUM:1 NUM:2", "IF IF NUM:1 NUM:2 NUM:3 NUM:4",
            "LET:0 NUM:1", "LET:0 LAM:1 NUM:1", "AMB AMB NUM:1 NUM:2", "SEQ NUM:1 ".repeat(16));
    }

    private static void exactlyItsArity() {
        Checks.sentence("The language", "An expression is one token followed by exactly its arity many "
            + "operand expressions, in order.");
        for (int kind = 0; kind <= 15; kind++) {
            String before = "LET:0 NUM:0 " + Checks.NAMES[kind] + ":0";
            for (int operands = 0; operands <= 4; operands++) {
                int want = operands < Checks.ARITY[kind] ? AmbEvaluator.ERR_INCOMPLETE
                    : operands > Checks.ARITY[kind] ? AmbEvaluator.ERR_EXTRA : AmbEvaluator.OK;
                dueCompile(before + " NUM:1".repeat(operands), want);
                dueCompile(before + " ADD NUM:1 NUM:2".repeat(operands), want);
            }
        }
    }

    private static void everyToken() {
        Checks.sentence("The language", "The program is one expression using every token.");
        dueEach(AmbEvaluator.OK, "NUM:1", "FAIL", "LAM:0 NUM:1",
            Programs.FULL, "LAM:0 ".repeat(31) + "VAR:0",
            "IF NUM:1 NUM:2 ".repeat(10) + "NUM:3");
        dueEach(AmbEvaluator.ERR_EXTRA, "NUM:1 NUM:1", "LAM:0 VAR:0 LAM:0 VAR:0", "SEQ FAIL FAIL FAIL");
    }

    private static void positionsFromZero() {
        Checks.sentence("The language", "Token positions count from 0 in the order fed.");
        AmbEvaluator x = Checks.searched("LAM:0 NUM:4", 1);
        Checks.due("the first token", x.tokenKind(0), AmbEvaluator.LAM);
        Checks.due("the second token", x.tokenArg(1), 4);
        Checks.due("the position of the closure", x.value(), 0);
        Checks.dueSearch("AMB LAM:0 NUM:4 LAM:0 NUM:5", "0>L1@1!0 1>L3@1!0 end!0");
    }

    private static void unbound() {
        Checks.sentence("Promise 4", "Some VAR or SET token lies outside the scope of its variable: ERR_UNBOUND.");
        dueEach(AmbEvaluator.ERR_UNBOUND, "VAR:0", "VAR:7", "SET:0 NUM:1", "SET:7 NUM:1", "SET:0 VAR:0",
            "ADD VAR:0 NUM:1", "ADD NUM:1 VAR:0", "IF NUM:1 NUM:2 VAR:5", "SEQ NUM:0 SET:3 NUM:1",
            // One is enough, the first or the last, beside any number that are bound.
            "SEQ VAR:0 LET:0 NUM:1 VAR:0", "SEQ LET:0 NUM:1 VAR:0 VAR:0", "LET:0 NUM:1 SEQ VAR:0 SEQ VAR:1 VAR:0",
            "LET:0 NUM:1 SEQ SET:0 VAR:0 SET:1 VAR:0", "LET:0 NUM:1 ".repeat(15) + "SET:0 VAR:1",
            // Also where no path can come.
            "IF NUM:0 VAR:0 NUM:1", "SEQ FAIL VAR:0", "REQ NUM:0 SET:1 NUM:1");
        dueEach(AmbEvaluator.OK, "FAIL", "LET:0 NUM:1 NUM:2", "LAM:0 NUM:1");
    }

    private static void firstThatFails() {
        Checks.sentence("Promise 4", "it applies these conditions in order, and the first one that fails "
            + "gives the answer");
        dueEach(AmbEvaluator.ERR_EXTRA, "VAR:0 NUM:1", "NUM:1 VAR:0", "SET:0 NUM:1 ADD", "NUM:1 ADD", "NUM:1 SET:0",
            "LET:0 VAR:0 NUM:1 IF");
        dueEach(AmbEvaluator.ERR_INCOMPLETE, "ADD VAR:0", "SET:0", "SET:0 SET:1", "LET:0 VAR:0", "IF VAR:1 VAR:2");
        dueEach(AmbEvaluator.ERR_UNBOUND, "ADD VAR:0 NUM:1", "SET:0 NUM:1");
    }

    private static void letBindsInBodyOnly() {
        Checks.sentence("The language", "LET v e b binds v in b only, not in e.");
        for (int v = 0; v <= 7; v++) {
            String let = "LET:" + v + " ";
            String var = "VAR:" + v + " ";
            String set = "SET:" + v + " NUM:1 ";
            dueEach(AmbEvaluator.OK, let + "NUM:1 " + var, let + "NUM:1 " + set, let + "NUM:1 ADD " + var + set,
                let + "ADD NUM:1 NUM:2 " + var, let + "NUM:1 SEQ NUM:2 SEQ NUM:3 " + var);
            dueEach(AmbEvaluator.ERR_UNBOUND, let + var + "NUM:1", let + set + "NUM:1", let + var + var,
                let + "ADD NUM:1 " + var + "NUM:1", let + "ADD " + var + "NUM:1 NUM:1", let + "LAM:" + (v ^ 1) + " "
                + var + var);
            // The first token behind b is out of scope again.
            dueEach(AmbEvaluator.ERR_UNBOUND, "ADD " + let + "NUM:1 NUM:2 " + var, "ADD " + let + "NUM:1 " + var + var,
                "SEQ " + let + "NUM:1 ADD " + var + var + set);
        }
    }

    private static void lamBindsInBody() {
        Checks.sentence("The language", "LAM v b binds v in b.");
        for (int v = 0; v <= 7; v++) {
            String lam = "LAM:" + v + " ";
            String var = "VAR:" + v + " ";
            String set = "SET:" + v + " NUM:1 ";
            dueEach(AmbEvaluator.OK, lam + var, lam + set, lam + "ADD " + var + var, lam + "IF NUM:1 NUM:2 " + var);
            dueEach(AmbEvaluator.ERR_UNBOUND, "ADD " + lam + var + var, "ADD " + var + lam + var,
                "APP " + lam + "NUM:1 " + var, "APP " + lam + var + set, "SEQ " + lam + "ADD NUM:1 " + var + var);
        }
    }

    private static void insideAnEnclosingBody() {
        Checks.sentence("The language", "A VAR v or SET v token must lie inside the b of an enclosing LET or LAM "
            + "binding v.");
        for (int v = 0; v <= 7; v++) {
            for (int used = 0; used <= 7; used++) {
                int want = v == used ? AmbEvaluator.OK : AmbEvaluator.ERR_UNBOUND;
                dueCompile("LET:" + v + " NUM:1 VAR:" + used, want);
                dueCompile("LET:" + v + " NUM:1 SET:" + used + " NUM:2", want);
                dueCompile("LAM:" + v + " VAR:" + used, want);
                dueCompile("LAM:" + v + " SET:" + used + " NUM:2", want);
            }
        }
        dueEach(AmbEvaluator.OK, "LET:0 LET:0 NUM:1 VAR:0 VAR:0", "LET:0 NUM:1 LET:0 VAR:0 VAR:0",
            "LET:0 LAM:0 VAR:0 VAR:0", "LAM:0 LAM:1 ADD VAR:0 VAR:1", "LET:0 NUM:1 SEQ LAM:0 NUM:2 VAR:0",
            "LET:0 NUM:1 LET:1 NUM:2 SEQ SET:0 VAR:1 SET:1 VAR:0", "LET:0 NUM:1 LET:1 VAR:0 VAR:1",
            "LET:0 NUM:1 SEQ LET:0 NUM:2 VAR:0 VAR:0");
        dueEach(AmbEvaluator.ERR_UNBOUND, "LET:0 LET:1 NUM:1 VAR:1 VAR:1", "LET:0 LET:1 VAR:0 NUM:1 NUM:1",
            "LET:1 LAM:0 NUM:1 VAR:0", "LET:0 NUM:1 SET:1 VAR:0", "LET:0 LET:1 NUM:1 VAR:0 VAR:0",
            // A SET binds nothing, not even in its own operand.
            "LET:0 NUM:1 SET:0 VAR:1", "SEQ SET:0 NUM:1 VAR:0", "SET:0 SET:0 NUM:1");
    }

    private static void errorChangesNothing() {
        Checks.sentence("Promise 4", "An error changes nothing: the tokens stay, the phase stays EDIT");
        String[] texts = {"", "NUM:1 NUM:2", "NUM:-9 ".repeat(32), "IF NUM:1 NUM:2", "ADD", "VAR:0",
            "LET:6 VAR:6 NUM:8"};
        int[] answers = {AmbEvaluator.ERR_EMPTY, AmbEvaluator.ERR_EXTRA, AmbEvaluator.ERR_EXTRA,
            AmbEvaluator.ERR_INCOMPLETE, AmbEvaluator.ERR_INCOMPLETE, AmbEvaluator.ERR_UNBOUND,
            AmbEvaluator.ERR_UNBOUND};
        for (int i = 0; i < texts.length; i++) {
            String text = texts[i];
            int answer = answers[i];
            Points.Point point = new Points.Point(text, AmbEvaluator.EDIT, () -> Checks.fed(6, 16, text));
            Points.dueNoChange("compile", point, x -> Checks.due("compile of " + text, x.compile(), answer));
            AmbEvaluator x = point.reach();
            for (int times = 0; times < 3; times++) {
                Checks.due("compile of " + text + " once more", x.compile(), answer);
                Checks.dueCounts(text, x, AmbEvaluator.EDIT, 0, 0);
                Checks.dueCleared(text, x);
                Checks.due("tokenCount of " + text, x.tokenCount(), Checks.parse(text).length / 2);
                Checks.due("next after an error", x.next(), AmbEvaluator.REFUSED);
                Checks.due("restart after an error", x.restart(), false);
            }
        }
    }

    private static void furtherTokens() {
        Checks.sentence("Promise 4", "and further tokens may still be fed.");
        AmbEvaluator x = new AmbEvaluator(6, 16);
        Checks.due("nothing fed", x.compile(), AmbEvaluator.ERR_EMPTY);
        Checks.feed(x, "LET:1 NUM:2");
        Checks.due("open", x.compile(), AmbEvaluator.ERR_INCOMPLETE);
        Checks.feed(x, "SEQ VAR:1 VAR:1");
        Checks.due("whole", x.compile(), AmbEvaluator.OK);
        Checks.due("its search", Checks.search(x), "->2@1!0 end!0");
        x.reset();
        Checks.feed(x, "LET:1 NUM:2 SEQ VAR:0");
        Checks.due("open again", x.compile(), AmbEvaluator.ERR_INCOMPLETE);
        Checks.feed(x, "VAR:1");
        Checks.due("out of scope", x.compile(), AmbEvaluator.ERR_UNBOUND);
        Checks.feed(x, "VAR:1");
        Checks.due("too many", x.compile(), AmbEvaluator.ERR_EXTRA);
        Checks.feed(x, "NUM:1 ".repeat(26));
        Checks.due("full", x.tokenCount(), 32);
    }

    private static final String[] GOOD = {"NUM:1", "FAIL", Programs.MIXED, Programs.FULL};

    private static void okToReady() {
        Checks.sentence("Promise 4", "If all conditions pass, compile answers OK and sets the phase to READY");
        for (String text : GOOD) {
            AmbEvaluator x = Checks.compiled(6, 16, text);
            Checks.due("phase of " + text, x.phase(), AmbEvaluator.READY);
        }
    }

    private static void okCounts() {
        Checks.sentence("Promise 4", "sets solutionCount and failureCount to 0");
        for (String text : GOOD) {
            AmbEvaluator x = Checks.searched(Programs.MIXED, 3);
            x.reset();
            Checks.feed(x, text);
            x.compile();
            Checks.dueCounts(text, x, AmbEvaluator.READY, 0, 0);
        }
    }

    private static void okClears() {
        Checks.sentence("Promise 4", "clears the last solution");
        for (String text : GOOD) {
            AmbEvaluator x = Checks.searched(Programs.MIXED, 2);
            x.reset();
            Checks.feed(x, text);
            x.compile();
            Checks.dueCleared(text, x);
        }
    }

    private static void okAtTheFirstPath() {
        Checks.sentence("Promise 4", "places the search at the first path");
        for (int nexts = 0; nexts <= 4; nexts++) {
            AmbEvaluator x = Checks.searched(Programs.MIXED, nexts);
            x.reset();
            Checks.feed(x, "ADD AMB NUM:1 NUM:2 AMB NUM:10 NUM:20");
            x.compile();
            Checks.due("a program after " + nexts + " calls of next on another", Checks.search(x),
                "00>11@0!0 01>21@0!0 10>12@0!0 11>22@0!0 end!0");
        }
    }

    private static void okKeepsTokens() {
        Checks.sentence("Promise 4", "The tokens are kept.");
        for (String text : GOOD) {
            Checks.dueTokens(text, Checks.compiled(6, 16, text), text);
        }
    }
}
