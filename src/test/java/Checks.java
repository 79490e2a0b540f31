/** What the tests share: comparing answers, and feeding programs that are written as text. */
final class Checks {
    static final String[] NAMES = {"NUM", "VAR", "ADD", "SUB", "MUL", "LT", "EQ", "IF",
        "AMB", "FAIL", "REQ", "LET", "LAM", "APP", "SET", "SEQ"};

    private static int wrong = 0;
    private static int done = 0;

    private Checks() {
    }

    static void due(String what, long got, long want) {
        done++;
        if (got != want) {
            wrong++;
            System.out.println(what + ": answered " + got + ", due is " + want);
        }
    }

    static void due(String what, boolean got, boolean want) {
        due(what, got ? 1L : 0L, want ? 1L : 0L);
    }

    /** Prints the sum and ends the test program, with 1 if an answer was wrong. */
    static void finish() {
        System.out.println(done + " checks, " + wrong + " wrong");
        System.exit(wrong == 0 ? 0 : 1);
    }

    /** Reads tokens such as "ADD NUM:-3 VAR:0" into kind, arg, kind, arg, ... */
    static int[] parse(String text) {
        String[] words = text.trim().isEmpty() ? new String[0] : text.trim().split("\\s+");
        int[] tokens = new int[2 * words.length];
        for (int i = 0; i < words.length; i++) {
            String[] parts = words[i].split(":");
            int kind = java.util.Arrays.asList(NAMES).indexOf(parts[0]);
            if (kind < 0) {
                throw new IllegalArgumentException(words[i]);
            }
            tokens[2 * i] = kind;
            tokens[2 * i + 1] = parts.length > 1 ? Integer.parseInt(parts[1]) : 0;
        }
        return tokens;
    }

    static void feed(AmbEvaluator x, String text) {
        int[] tokens = parse(text);
        for (int i = 0; i < tokens.length; i += 2) {
            due("feeding " + text, x.token(tokens[i], tokens[i + 1]), true);
        }
    }

    static AmbEvaluator compiled(int maxChoices, int maxAlloc, String text) {
        AmbEvaluator x = new AmbEvaluator(maxChoices, maxAlloc);
        feed(x, text);
        due("compile of " + text, x.compile(), AmbEvaluator.OK);
        return x;
    }

    static void dueCleared(String what, AmbEvaluator x) {
        due(what + ", kind", x.kind(), AmbEvaluator.KIND_NONE);
        due(what + ", value", x.value(), 0);
        due(what + ", choiceCount", x.choiceCount(), 0);
        due(what + ", allocCount", x.allocCount(), 0);
        for (int i = -1; i <= 7; i++) {
            due(what + ", choiceBit(" + i + ")", x.choiceBit(i), -1);
        }
    }

    /** The last solution, with its choices written as a text of 0 and 1. */
    static void dueLast(String what, AmbEvaluator x, int kind, int value, String bits, int allocs) {
        due(what + ", kind", x.kind(), kind);
        due(what + ", value", x.value(), value);
        due(what + ", allocCount", x.allocCount(), allocs);
        due(what + ", choiceCount", x.choiceCount(), bits.length());
        for (int i = 0; i < bits.length(); i++) {
            due(what + ", choiceBit(" + i + ")", x.choiceBit(i), bits.charAt(i) - '0');
        }
        due(what + ", choiceBit(-1)", x.choiceBit(-1), -1);
        due(what + ", choiceBit past the end", x.choiceBit(bits.length()), -1);
    }

    static void dueCounts(String what, AmbEvaluator x, int phase, int solutions, int failures) {
        due(what + ", phase", x.phase(), phase);
        due(what + ", solutionCount", x.solutionCount(), solutions);
        due(what + ", failureCount", x.failureCount(), failures);
    }
}
