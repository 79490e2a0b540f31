/** Promise 3 and the queries on tokens (promises 14, 15 and 16), sentence by sentence. */
final class TokenTest {
    // Some of these have the low bits of a right kind or arg, so that a narrowing before the check shows.
    private static final int[] WRONG_KINDS = {Checks.LEAST, -65536, -256, -16, -2, -1, 16, 17, 31, 256, 269, 65536,
        Checks.MOST};
    private static final int[] WRONG_ARGS = {Checks.LEAST, -65536, -256, -8, -1, 8, 9, 15, 16, 256, 259, 65536,
        Checks.MOST};
    private static final int[] ANY_ARGS = {Checks.LEAST, -65537, -129, -1, 0, 1, 7, 8, 127, 128, 255, 32768, 65536,
        Checks.MOST};
    private static final String EACH_KIND = "NUM:-4 VAR:1 ADD SUB MUL LT EQ IF AMB FAIL REQ LET:2 LAM:3 APP SET:4 SEQ";

    private TokenTest() {
    }

    public static void main(String[] arguments) {
        refusedOutsideEdit();
        refusedWrongKind();
        refusedWrongVariable();
        refusedWhenFull();
        atMost32Tokens();
        appendsAtTokenCount();
        storesArg();
        storesZero();
        anyIntForNum();
        changesNothingElse();
        examinesNoShape();
        tokenCountFrom0To32();
        tokenKindInside();
        tokenKindOutside();
        tokenArgInside();
        tokenArgOutside();
        Checks.finish();
    }

    private static void dueRefused(Points.Point point, int kind, int arg) {
        String what = "token(" + kind + ", " + arg + ")";
        Points.dueNoChange(what, point, x -> Checks.due(what + " at " + point.name, x.token(kind, arg), false));
    }

    private static void refusedOutsideEdit() {
        Checks.sentence("Promise 3", "It is refused (answers false, changes nothing) if: the phase is not EDIT");
        for (Points.Point point : Points.in(AmbEvaluator.READY, AmbEvaluator.DONE)) {
            for (int kind = 0; kind <= 15; kind++) {
                dueRefused(point, kind, 1);
            }
            dueRefused(point, 16, 0);
            dueRefused(point, AmbEvaluator.VAR, 8);
        }
    }

    private static void refusedWrongKind() {
        Checks.sentence("Promise 3", "It is refused (answers false, changes nothing) if: kind is not in 0..15");
        for (Points.Point point : Points.in(AmbEvaluator.EDIT)) {
            for (int kind : WRONG_KINDS) {
                dueRefused(point, kind, 0);
                dueRefused(point, kind, 8);
            }
        }
        for (int kind = 0; kind <= 15; kind++) {
            AmbEvaluator x = new AmbEvaluator(6, 16);
            Checks.due("kind " + kind, x.token(kind, 0), true);
            Checks.due("kind " + kind + ", tokenKind", x.tokenKind(0), kind);
        }
    }

    private static void refusedWrongVariable() {
        Checks.sentence("Promise 3", "It is refused (answers false, changes nothing) if: "
            + "kind is VAR, LET, LAM or SET and arg is not in 0..7");
        int[] kinds = {AmbEvaluator.VAR, AmbEvaluator.LET, AmbEvaluator.LAM, AmbEvaluator.SET};
        for (int kind : kinds) {
            for (Points.Point point : Points.in(AmbEvaluator.EDIT)) {
                for (int arg : WRONG_ARGS) {
                    dueRefused(point, kind, arg);
                }
            }
            for (int arg = 0; arg <= 7; arg++) {
                AmbEvaluator x = new AmbEvaluator(6, 16);
                Checks.due(Checks.NAMES[kind] + " with " + arg, x.token(kind, arg), true);
                Checks.due(Checks.NAMES[kind] + " with " + arg + ", tokenArg", x.tokenArg(0), arg);
            }
        }
        for (int kind = 0; kind <= 15; kind++) {
            for (int arg : WRONG_ARGS) {
                AmbEvaluator x = new AmbEvaluator(6, 16);
                boolean taken = !Checks.namesVariable(kind);
                Checks.due(Checks.NAMES[kind] + " with " + arg, x.token(kind, arg), taken);
            }
        }
    }

    private static void refusedWhenFull() {
        Checks.sentence("Promise 3", "It is refused (answers false, changes nothing) if: 32 tokens are already held");
        String[] programs = {"NUM:9 ".repeat(32), "SEQ ".repeat(32), EACH_KIND + " " + EACH_KIND,
            Programs.FULL};
        for (String text : programs) {
            Points.Point full = new Points.Point("full with " + text, AmbEvaluator.EDIT, () -> Checks.fed(6, 16, text));
            for (int kind = -1; kind <= 16; kind++) {
                dueRefused(full, kind, 3);
            }
        }
        AmbEvaluator x = Checks.fed(6, 16, "NUM:9 ".repeat(32));
        Checks.due("compile", x.compile(), AmbEvaluator.ERR_EXTRA);
        Checks.due("still full after an error", x.token(AmbEvaluator.NUM, 1), false);
        x.reset();
        Checks.due("not full after a reset", x.token(AmbEvaluator.NUM, 1), true);
    }

    private static void atMost32Tokens() {
        Checks.sentence("What it is", "A program holds at most 32 tokens.");
        Checks.due("MAX_TOKENS", AmbEvaluator.MAX_TOKENS, 32);
        AmbEvaluator x = new AmbEvaluator(6, 16);
        for (int i = 0; i < 40; i++) {
            Checks.due("token " + i, x.token(AmbEvaluator.NUM, 100 + i), i < 32);
            Checks.due("tokenCount", x.tokenCount(), Math.min(i + 1, 32));
        }
        for (int i = 0; i < 32; i++) {
            Checks.due("tokenArg(" + i + ")", x.tokenArg(i), 100 + i);
        }
        Checks.dueSearch(Programs.FULL, "->6@15!0 end!0");
    }

    private static void appendsAtTokenCount() {
        Checks.sentence("Promise 3", "Otherwise it appends the token at position tokenCount(), "
            + "so tokenCount rises by 1, and answers true.");
        int[] tokens = Checks.parse(EACH_KIND + " " + EACH_KIND);
        AmbEvaluator x = new AmbEvaluator(6, 16);
        for (int i = 0; i < 32; i++) {
            Checks.due("token " + i, x.token(tokens[2 * i], tokens[2 * i + 1]), true);
            Checks.due("tokenCount", x.tokenCount(), i + 1);
            for (int before = 0; before <= i; before++) {
                Checks.due("tokenKind(" + before + ")", x.tokenKind(before), tokens[2 * before]);
                Checks.due("tokenArg(" + before + ")", x.tokenArg(before), tokens[2 * before + 1]);
            }
        }
        x.reset();
        x.token(AmbEvaluator.FAIL, 0);
        Checks.due("refused between two", x.token(AmbEvaluator.SET, 8), false);
        x.token(AmbEvaluator.NUM, 5);
        Checks.due("position 1 after a refused token", x.tokenKind(1), AmbEvaluator.NUM);
    }

    private static void dueStored(int kind, int arg, int want) {
        AmbEvaluator x = Checks.fed(6, 16, "NUM:77");
        String what = Checks.NAMES[kind] + " with " + arg;
        Checks.due(what, x.token(kind, arg), true);
        Checks.due(what + ", tokenArg", x.tokenArg(1), want);
        Checks.due(what + ", tokenArg before it", x.tokenArg(0), 77);
    }

    private static void storesArg() {
        Checks.sentence("Promise 3", "The stored arg is arg for NUM, VAR, LET, LAM and SET.");
        for (int arg = 0; arg <= 7; arg++) {
            dueStored(AmbEvaluator.NUM, arg, arg);
            dueStored(AmbEvaluator.VAR, arg, arg);
            dueStored(AmbEvaluator.LET, arg, arg);
            dueStored(AmbEvaluator.LAM, arg, arg);
            dueStored(AmbEvaluator.SET, arg, arg);
        }
    }

    private static void storesZero() {
        Checks.sentence("Promise 3", "For every other kind the stored arg is 0, whatever arg was given.");
        for (int kind = 0; kind <= 15; kind++) {
            if (kind != AmbEvaluator.NUM && !Checks.namesVariable(kind)) {
                for (int arg : ANY_ARGS) {
                    dueStored(kind, arg, 0);
                }
            }
        }
    }

    private static void anyIntForNum() {
        Checks.sentence("Promise 3", "For NUM any int is accepted as arg.");
        for (int arg : ANY_ARGS) {
            dueStored(AmbEvaluator.NUM, arg, arg);
            Checks.dueSearch("NUM:" + arg, "->" + arg + "@0!0 end!0");
        }
    }

    private static void changesNothingElse() {
        Checks.sentence("Promise 3", "Appending does not change the phase, the counts or the last solution.");
        for (Points.Point point : Points.in(AmbEvaluator.EDIT)) {
            AmbEvaluator x = point.reach();
            for (int i = 0; i < 33; i++) {
                x.token(i % 16, 7);
                Checks.dueCounts("token " + i + " at the point: " + point.name, x, AmbEvaluator.EDIT, 0, 0);
                Checks.dueCleared("token " + i + " at the point: " + point.name, x);
            }
        }
    }

    private static void examinesNoShape() {
        Checks.sentence("Promise 3", "It does not examine program shape or scope; "
            + "a token that leaves the program incomplete or misplaced is still accepted.");
        String[] taken = {"NUM:1 NUM:2", "NUM:1 ADD", "VAR:0", "SET:7", "IF IF IF", "FAIL FAIL", "ADD NUM:1 VAR:3",
            "LET:0 VAR:0 NUM:1 VAR:0", "LAM:1 VAR:2 VAR:1"};
        for (String text : taken) {
            Checks.feed(new AmbEvaluator(6, 16), text);
            Checks.feed(new AmbEvaluator(1, 1), text);
        }
        AmbEvaluator x = Checks.fed(6, 16, "NUM:1 VAR:0");
        Checks.due("compile", x.compile(), AmbEvaluator.ERR_EXTRA);
        Checks.due("token after a misplaced one", x.token(AmbEvaluator.VAR, 1), true);
    }

    private static void tokenCountFrom0To32() {
        Checks.sentence("Promise 14", "tokenCount() answers the number of tokens held, 0..32.");
        AmbEvaluator x = new AmbEvaluator(6, 16);
        Checks.due("none", x.tokenCount(), 0);
        for (int i = 1; i <= 32; i++) {
            x.token(AmbEvaluator.NUM, 0);
            Checks.due("held", x.tokenCount(), i);
        }
        x.token(AmbEvaluator.NUM, 0);
        Checks.due("full", x.tokenCount(), 32);
        x.reset();
        Checks.due("after a reset", x.tokenCount(), 0);
        for (int nexts = 0; nexts <= 4; nexts++) {
            Checks.due("in a search", Checks.searched(Programs.MIXED, nexts).tokenCount(), 10);
        }
    }

    private static void tokenKindInside() {
        Checks.sentence("Promise 15", "tokenKind(i) answers the kind of the token at position i.");
        for (int kind = 0; kind <= 15; kind++) {
            AmbEvaluator x = Checks.fed(6, 16, "NUM:5 ".repeat(31));
            x.token(kind, 2);
            Checks.due("at the first position", x.tokenKind(0), AmbEvaluator.NUM);
            Checks.due("at the last position of all", x.tokenKind(31), kind);
        }
        for (int nexts = 0; nexts <= 4; nexts++) {
            Checks.dueTokens("in a search", Checks.searched(Programs.MIXED, nexts), Programs.MIXED);
        }
    }

    /** Objects that hold so many tokens now, and have held 32 before. */
    private static AmbEvaluator heldBefore(int held) {
        AmbEvaluator x = Checks.fed(6, 16, "SET:5 ".repeat(32));
        x.reset();
        Checks.feed(x, "SET:6 ".repeat(held));
        return x;
    }

    private static int[] outside(int held) {
        return new int[] {Checks.LEAST, Checks.LEAST + 1, -65536, -256, -32, -2, -1, held, held + 1, 32, 33, 64, 256,
            65536, Checks.MOST - 1, Checks.MOST};
    }

    private static void tokenKindOutside() {
        Checks.sentence("Promise 15", "It answers -1 if i is not in 0..tokenCount()-1, "
            + "which includes negative i and every i when no tokens are held.");
        for (int held = 0; held <= 32; held++) {
            AmbEvaluator x = heldBefore(held);
            for (int i : outside(held)) {
                Checks.due(held + " held, tokenKind(" + i + ")", x.tokenKind(i), -1);
            }
            for (int i = 0; i < 32; i++) {
                Checks.due(held + " held, tokenKind(" + i + ")", x.tokenKind(i), i < held ? AmbEvaluator.SET : -1);
            }
        }
    }

    private static void tokenArgInside() {
        Checks.sentence("Promise 16", "tokenArg(i) answers the stored arg of the token at position i: "
            + "the given arg for NUM, VAR, LET, LAM and SET, and 0 for every other kind.");
        for (int kind = 0; kind <= 15; kind++) {
            AmbEvaluator x = Checks.fed(6, 16, "NUM:5 ".repeat(31));
            x.token(kind, 7);
            boolean kept = kind == AmbEvaluator.NUM || Checks.namesVariable(kind);
            Checks.due("at the first position", x.tokenArg(0), 5);
            Checks.due("at the last position of all", x.tokenArg(31), kept ? 7 : 0);
        }
        for (int nexts = 0; nexts <= 4; nexts++) {
            Checks.dueTokens("in a search", Checks.searched(Programs.MIXED, nexts), Programs.MIXED);
        }
    }

    private static void tokenArgOutside() {
        Checks.sentence("Promise 16", "It answers 0 if i is not in 0..tokenCount()-1.");
        for (int held = 0; held <= 32; held++) {
            AmbEvaluator x = heldBefore(held);
            for (int i : outside(held)) {
                Checks.due(held + " held, tokenArg(" + i + ")", x.tokenArg(i), 0);
            }
            for (int i = 0; i < 32; i++) {
                Checks.due(held + " held, tokenArg(" + i + ")", x.tokenArg(i), i < held ? 6 : 0);
            }
        }
    }
}
