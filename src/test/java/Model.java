import java.util.ArrayList;
import java.util.Arrays;
import java.util.List;

/** The document's object written a second time, over lists: from compile on it knows every path's outcome. */
final class Model {
    private final int maxChoices;
    private final int maxAlloc;
    private final List<int[]> tokens = new ArrayList<>();
    private int phase = AmbEvaluator.EDIT;
    private List<Reference.Outcome> outcomes = new ArrayList<>();
    private int examined = 0;
    private int solutions = 0;
    private int failures = 0;
    // null while the last solution is cleared
    private Reference.Outcome last = null;

    Model(int maxChoices, int maxAlloc) {
        this.maxChoices = Math.max(1, Math.min(6, maxChoices));
        this.maxAlloc = Math.max(1, Math.min(16, maxAlloc));
    }

    private void begin(int newPhase) {
        phase = newPhase;
        examined = 0;
        solutions = 0;
        failures = 0;
        last = null;
    }

    void reset() {
        tokens.clear();
        begin(AmbEvaluator.EDIT);
    }

    boolean token(int kind, int arg) {
        boolean wrongKind = kind < 0 || kind > 15;
        boolean wrongVariable = Checks.namesVariable(kind) && (arg < 0 || arg > 7);
        if (phase != AmbEvaluator.EDIT || wrongKind || wrongVariable || tokens.size() == 32) {
            return false;
        }
        boolean kept = kind == AmbEvaluator.NUM || Checks.namesVariable(kind);
        tokens.add(new int[] {kind, kept ? arg : 0});
        return true;
    }

    int compile() {
        if (phase != AmbEvaluator.EDIT) {
            return AmbEvaluator.REFUSED;
        }
        int[] flat = tokens.stream().flatMapToInt(Arrays::stream).toArray();
        Reference reference = new Reference(flat, maxChoices, maxAlloc);
        int answer = reference.compileAnswer();
        if (answer == AmbEvaluator.OK) {
            outcomes = reference.outcomes();
            begin(AmbEvaluator.READY);
        }
        return answer;
    }

    int next() {
        if (phase == AmbEvaluator.EDIT) {
            return AmbEvaluator.REFUSED;
        }
        while (examined < outcomes.size()) {
            Reference.Outcome outcome = outcomes.get(examined++);
            if (outcome.value != null) {
                solutions++;
                last = outcome;
                return AmbEvaluator.SOLUTION;
            }
            failures++;
        }
        phase = AmbEvaluator.DONE;
        return AmbEvaluator.EXHAUSTED;
    }

    boolean restart() {
        if (phase == AmbEvaluator.EDIT) {
            return false;
        }
        begin(AmbEvaluator.READY);
        return true;
    }

    int phase() {
        return phase;
    }

    int kind() {
        if (last == null) {
            return AmbEvaluator.KIND_NONE;
        }
        return last.value instanceof Reference.Closure ? AmbEvaluator.KIND_CLOSURE : AmbEvaluator.KIND_INT;
    }

    int value() {
        if (last == null) {
            return 0;
        }
        return kind() == AmbEvaluator.KIND_CLOSURE ? ((Reference.Closure) last.value).position : (Integer) last.value;
    }

    int solutionCount() {
        return solutions;
    }

    int failureCount() {
        return failures;
    }

    int choiceCount() {
        return last == null ? 0 : last.bits.length();
    }

    int choiceBit(int i) {
        return i >= 0 && i < choiceCount() ? last.bits.charAt(i) - '0' : -1;
    }

    int allocCount() {
        return last == null ? 0 : last.allocs;
    }

    int tokenCount() {
        return tokens.size();
    }

    int tokenKind(int i) {
        return i >= 0 && i < tokens.size() ? tokens.get(i)[0] : -1;
    }

    int tokenArg(int i) {
        return i >= 0 && i < tokens.size() ? tokens.get(i)[1] : 0;
    }
}
