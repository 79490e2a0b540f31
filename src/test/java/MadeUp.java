import java.util.ArrayList;
import java.util.List;
import java.util.Random;

/** Made-up programs as kind, arg, kind, arg, ...: the same ones for the same seed. */
final class MadeUp {
    private static final int[] NUMBERS = {0, 0, 1, 1, 2, 3, -1, 7, Integer.MAX_VALUE, Integer.MIN_VALUE};
    // More of the forms that work together, fewer that end a path at once.
    private static final int[] INNER = {2, 3, 4, 5, 6, 7, 8, 8, 8, 10, 11, 11, 11, 12, 12, 13, 13, 13, 14, 14, 15, 15};

    private final Random random;

    MadeUp(Random random) {
        this.random = random;
    }

    /** One expression of at most most tokens; now and then a variable of it is not bound. */
    int[] program(int most) {
        List<Integer> tokens = new ArrayList<>();
        make(tokens, 1 + random.nextInt(most), new ArrayList<>());
        return toArray(tokens);
    }

    /** A closure that can call itself, with a made body, so that paths run into their limits. */
    int[] selfApplied() {
        List<Integer> tokens = new ArrayList<>();
        List<Integer> scope = new ArrayList<>(List.of(0, 1));
        addAll(tokens, "LET:0 NUM:0 SEQ SET:0 LAM:1 IF LT VAR:1 NUM:1");
        make(tokens, 6, scope);
        addAll(tokens, "ADD");
        make(tokens, 5, scope);
        addAll(tokens, "APP VAR:0 SUB VAR:1 NUM:1 APP VAR:0");
        add(tokens, AmbEvaluator.NUM, random.nextInt(16));
        return toArray(tokens);
    }

    /** Tokens in no order at all: most of these do not compile. */
    int[] soup() {
        int[] tokens = new int[2 * random.nextInt(10)];
        for (int i = 0; i < tokens.length; i += 2) {
            tokens[i] = random.nextInt(3) == 0 ? random.nextInt(2) : random.nextInt(16);
            tokens[i + 1] = Checks.namesVariable(tokens[i]) ? random.nextInt(2) : random.nextInt(5);
        }
        return tokens;
    }

    static String text(int[] tokens) {
        StringBuilder text = new StringBuilder();
        for (int i = 0; i < tokens.length; i += 2) {
            text.append(' ').append(Checks.NAMES[tokens[i]]).append(':').append(tokens[i + 1]);
        }
        return text.toString();
    }

    private static int[] toArray(List<Integer> list) {
        int[] array = new int[list.size()];
        for (int i = 0; i < array.length; i++) {
            array[i] = list.get(i);
        }
        return array;
    }

    private static void add(List<Integer> tokens, int kind, int arg) {
        tokens.add(kind);
        tokens.add(arg);
    }

    private static void addAll(List<Integer> tokens, String text) {
        for (int number : Checks.parse(text)) {
            tokens.add(number);
        }
    }

    /** Appends an expression of at most size tokens, mostly within the scope of its variables. */
    private void make(List<Integer> tokens, int size, List<Integer> scope) {
        int kind = INNER[random.nextInt(INNER.length)];
        boolean open = kind == AmbEvaluator.SET && scope.isEmpty();
        if (size <= Checks.ARITY[kind] || open) {
            makeLeaf(tokens, scope);
            return;
        }
        int arg = 0;
        if (kind == AmbEvaluator.LET || kind == AmbEvaluator.LAM) {
            arg = random.nextInt(4) * (1 + random.nextInt(2));
        } else if (kind == AmbEvaluator.SET) {
            arg = scope.get(random.nextInt(scope.size()));
        }
        add(tokens, kind, arg);
        List<Integer> wider = new ArrayList<>(scope);
        wider.add(arg);
        int left = size - 1;
        for (int i = 0; i < Checks.ARITY[kind]; i++) {
            int later = Checks.ARITY[kind] - 1 - i;
            int share = later == 0 ? left : 1 + random.nextInt(left - later);
            boolean body = kind == AmbEvaluator.LAM || (kind == AmbEvaluator.LET && i == 1);
            int before = tokens.size();
            if (kind == AmbEvaluator.APP && i == 0 && share >= 2 && random.nextInt(2) == 0) {
                makeLambda(tokens, share, scope);
            } else {
                make(tokens, share, body ? wider : scope);
            }
            left -= (tokens.size() - before) / 2;
        }
    }

    private void makeLambda(List<Integer> tokens, int size, List<Integer> scope) {
        int variable = random.nextInt(AmbEvaluator.MAX_TOKENS) % 8;
        add(tokens, AmbEvaluator.LAM, variable);
        List<Integer> wider = new ArrayList<>(scope);
        wider.add(variable);
        make(tokens, size - 1, wider);
    }

    private void makeLeaf(List<Integer> tokens, List<Integer> scope) {
        int draw = random.nextInt(40);
        if (draw == 0) {
            add(tokens, AmbEvaluator.FAIL, 0);
        } else if (draw == 1 && random.nextInt(4) == 0) {
            add(tokens, AmbEvaluator.VAR, random.nextInt(8));
        } else if (draw < 25 && !scope.isEmpty()) {
            add(tokens, AmbEvaluator.VAR, scope.get(random.nextInt(scope.size())));
        } else {
            add(tokens, AmbEvaluator.NUM, NUMBERS[random.nextInt(NUMBERS.length)]);
        }
    }
}
