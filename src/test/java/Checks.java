import java.util.Arrays;

/** What the tests share: comparing answers, feeding programs written as text, telling states as text. */
final class Checks {
    static final int LEAST = Integer.MIN_VALUE;
    static final int MOST = Integer.MAX_VALUE;
    static final String[] NAMES = {"NUM", "VAR", "ADD", "SUB", "MUL", "LT", "EQ", "IF",
        "AMB", "FAIL", "REQ", "LET", "LAM", "APP", "SET", "SEQ"};
    static final int[] ARITY = {0, 0, 2, 2, 2, 2, 2, 3, 2, 0, 2, 2, 1, 2, 1, 2};

    // Above the 64 paths that a search can have, so that a search that does not end is told as such.
    private static final int MANY_CALLS = 100;

    private static String sentence = "";
    private static int sentences = 0;
    private static int wrong = 0;
    private static int done = 0;

    private Checks() {
    }

    /** Opens the test of one sentence of the document: the wrong answers that follow are told under it. */
    static void sentence(String where, String words) {
        sentence = where + " \"" + words + "\": ";
        sentences++;
    }

    static void due(String what, long got, long want) {
        due(what, got == want, got, want);
    }

    static void due(String what, boolean got, boolean want) {
        due(what, got == want, got, want);
    }

    static void due(String what, String got, String want) {
        due(what, got.equals(want), got, want);
    }

    private static void due(String what, boolean right, Object got, Object want) {
        done++;
        if (!right) {
            wrong++;
            System.out.println(sentence + what + ": answered " + got + ", due is " + want);
        }
    }

    /** Prints the sum and ends the test program, with 1 if an answer was wrong or nothing was checked. */
    static void finish() {
        String under = sentences == 0 ? "" : " under " + sentences + " sentences";
        System.out.println(done + " checks" + under + ", " + wrong + " wrong");
        System.exit(wrong == 0 && done > 0 ? 0 : 1);
    }

    static boolean namesVariable(int kind) {
        return kind == AmbEvaluator.VAR || kind == AmbEvaluator.LET || kind == AmbEvaluator.LAM
            || kind == AmbEvaluator.SET;
    }

    /** Reads tokens such as "ADD NUM:-3 VAR:0" into kind, arg, kind, arg, ... */
    static int[] parse(String text) {
        String[] words = text.trim().isEmpty() ? new String[0] : text.trim().split("\\s+");
        int[] tokens = new int[2 * words.length];
        for (int i = 0; i < words.length; i++) {
            String[] parts = words[i].split(":");
            int kind = Arrays.asList(NAMES).indexOf(parts[0]);
            if (kind < 0) {
                throw new IllegalArgumentException(words[i]);
            }
            tokens[2 * i] = kind;
            tokens[2 * i + 1] = parts.length > 1 ? Integer.parseInt(parts[1]) : 0;
        }
        return tokens;
    }

    static void feed(AmbEvaluator x, String text) {
        int[] tokens = parse(text);
        for (int i = 0; i < tokens.length; i += 2) {
            due("feeding " + text, x.token(tokens[i], tokens[i + 1]), true);
        }
    }

    static AmbEvaluator fed(int maxChoices, int maxAlloc, String text) {
        AmbEvaluator x = new AmbEvaluator(maxChoices, maxAlloc);
        feed(x, text);
        return x;
    }

    static AmbEvaluator compiled(int maxChoices, int maxAlloc, String text) {
        AmbEvaluator x = fed(maxChoices, maxAlloc, text);
        due("compile of " + text, x.compile(), AmbEvaluator.OK);
        return x;
    }

    /** Compiled with the greatest limits, then so many calls of next. */
    static AmbEvaluator searched(String text, int nexts) {
        AmbEvaluator x = compiled(6, 16, text);
        for (int i = 0; i < nexts; i++) {
            x.next();
        }
        return x;
    }

    /** All that the queries answer, also outside the positions that they have. */
    static String state(AmbEvaluator x) {
        StringBuilder text = new StringBuilder();
        text.append("phase ").append(x.phase()).append(", counts ").append(x.solutionCount()).append(' ')
            .append(x.failureCount()).append(", last ").append(x.kind()).append(' ').append(x.value())
            .append(" allocs ").append(x.allocCount()).append(" choices ").append(x.choiceCount()).append(':');
        for (int i = -2; i <= 8; i++) {
            text.append(' ').append(x.choiceBit(i));
        }
        text.append(", tokens ").append(x.tokenCount()).append(':');
        for (int i = -2; i <= 33; i++) {
            text.append(' ').append(x.tokenKind(i)).append('/').append(x.tokenArg(i));
        }
        return text.toString();
    }

    /**
     * The whole search, told as one text. Each solution is bits>value@allocs!failures, with - for no bits
     * and L before the position of a closure; the end is end!failures.
     */
    static String search(AmbEvaluator x) {
        StringBuilder text = new StringBuilder();
        int solutions = 0;
        for (int call = 0; call < MANY_CALLS; call++) {
            int answer = x.next();
            if (answer != AmbEvaluator.SOLUTION) {
                dueCounts("at the end", x, AmbEvaluator.DONE, solutions, x.failureCount());
                return text + (answer == AmbEvaluator.EXHAUSTED ? "end!" : "refused!") + x.failureCount();
            }
            solutions++;
            dueCounts("at a solution", x, AmbEvaluator.READY, solutions, x.failureCount());
            text.append(solution(x)).append('!').append(x.failureCount()).append(' ');
        }
        return text + "without an end";
    }

    /** The last solution as bits>value@allocs. */
    static String solution(AmbEvaluator x) {
        StringBuilder text = new StringBuilder();
        for (int i = 0; i < x.choiceCount(); i++) {
            text.append(x.choiceBit(i));
        }
        String bits = text.length() == 0 ? "-" : text.toString();
        String mark = x.kind() == AmbEvaluator.KIND_CLOSURE ? "L" : x.kind() == AmbEvaluator.KIND_INT ? "" : "none";
        return bits + ">" + mark + x.value() + "@" + x.allocCount();
    }

    static void dueSearch(String text, String want) {
        dueSearchWith(6, 16, text, want);
    }

    static void dueSearchWith(int maxChoices, int maxAlloc, String text, String want) {
        AmbEvaluator x = compiled(maxChoices, maxAlloc, text);
        due("limits " + maxChoices + ", " + maxAlloc + ": " + text, search(x), want);
    }

    static void dueCleared(String what, AmbEvaluator x) {
        due(what + ", kind", x.kind(), AmbEvaluator.KIND_NONE);
        due(what + ", value", x.value(), 0);
        due(what + ", choiceCount", x.choiceCount(), 0);
        due(what + ", allocCount", x.allocCount(), 0);
        for (int i = -1; i <= 7; i++) {
            due(what + ", choiceBit(" + i + ")", x.choiceBit(i), -1);
        }
    }

    /** The last solution, with its choices written as a text of 0 and 1. */
    static void dueLast(String what, AmbEvaluator x, int kind, int value, String bits, int allocs) {
        due(what + ", kind", x.kind(), kind);
        due(what + ", value", x.value(), value);
        due(what + ", allocCount", x.allocCount(), allocs);
        due(what + ", choiceCount", x.choiceCount(), bits.length());
        for (int i = 0; i < bits.length(); i++) {
            due(what + ", choiceBit(" + i + ")", x.choiceBit(i), bits.charAt(i) - '0');
        }
        due(what + ", choiceBit(-1)", x.choiceBit(-1), -1);
        due(what + ", choiceBit past the end", x.choiceBit(bits.length()), -1);
    }

    static void dueTokens(String what, AmbEvaluator x, String text) {
        int[] tokens = parse(text);
        due(what + ", tokenCount", x.tokenCount(), tokens.length / 2);
        for (int i = 0; i < tokens.length / 2; i++) {
            due(what + ", tokenKind(" + i + ")", x.tokenKind(i), tokens[2 * i]);
            due(what + ", tokenArg(" + i + ")", x.tokenArg(i), tokens[2 * i + 1]);
        }
    }

    static void dueCounts(String what, AmbEvaluator x, int phase, int solutions, int failures) {
        due(what + ", phase", x.phase(), phase);
        due(what + ", solutionCount", x.solutionCount(), solutions);
        due(what + ", failureCount", x.failureCount(), failures);
    }
}
