public final class AmbEvaluator {
    public static final int NUM = 0, VAR = 1, ADD = 2, SUB = 3, MUL = 4, LT = 5, EQ = 6, IF = 7,
        AMB = 8, FAIL = 9, REQ = 10, LET = 11, LAM = 12, APP = 13, SET = 14, SEQ = 15;
    public static final int EDIT = 0, READY = 1, DONE = 2;
    public static final int REFUSED = -1, EXHAUSTED = 0, SOLUTION = 1;
    public static final int OK = 0, ERR_EMPTY = 1, ERR_EXTRA = 2, ERR_INCOMPLETE = 3, ERR_UNBOUND = 4;
    public static final int KIND_NONE = 0, KIND_INT = 1, KIND_CLOSURE = 2;
    public static final int MAX_TOKENS = 32;

    private static final int MOST_CHOICES = 6;
    private static final int MOST_ALLOC = 16;
    private static final int VARIABLES = 8;
    private static final int MOST_PATHS = 1 << MOST_CHOICES;

    // A path runs the program once and a closure's body once per APP, and every APP allocates.
    // A run visits a token at most once, so this bounds the visits, and with them the open frames.
    private static final int MOST_VISITS = MAX_TOKENS * (MOST_ALLOC + 1);

    // Every visit is answered at most once, so a path needs at most 2 * MOST_VISITS steps.
    private static final int MOST_STEPS = 1000000;

    private static final int NO_LOCATION = -1;

    private final int maxChoices;
    private final int maxAlloc;

    private final int[] kinds = new int[MAX_TOKENS];
    private final int[] args = new int[MAX_TOKENS];
    private int held = 0;
    // ends[i] is the position just after the expression that begins at i.
    private final int[] ends = new int[MAX_TOKENS];

    private int stage = EDIT;
    private int solutions = 0;
    private int failures = 0;

    private int lastKind = KIND_NONE;
    private int lastValue = 0;
    private int lastChoices = 0;
    private int lastChoiceCount = 0;
    private int lastAllocCount = 0;

    // The choice vector of the path to run, read as a binary number with the first choice on top.
    // Choices beyond its length are 0, and are appended as the path makes them.
    private int steering = 0;
    private int steeringLength = 0;
    private boolean pathLeft = false;

    private boolean failed = false;
    private int choicesMade = 0;
    private int allocsMade = 0;

    // An environment is named by its innermost location, which knows the environment around it.
    // Both a location and a closure are named by the number of the allocation that made them.
    private final int[] locationVariable = new int[MOST_ALLOC];
    private final int[] locationOuter = new int[MOST_ALLOC];
    private final boolean[] locationIsClosure = new boolean[MOST_ALLOC];
    private final int[] locationValue = new int[MOST_ALLOC];
    private final int[] closureToken = new int[MOST_ALLOC];
    private final int[] closureEnvironment = new int[MOST_ALLOC];

    // Either a token is about to be visited, or a value is about to be handed to the top frame.
    private boolean visiting = false;
    private int position = 0;
    private int environment = NO_LOCATION;
    private boolean resultIsClosure = false;
    private int resultValue = 0;

    // A frame is an expression that waits for the value of one of its operands.
    private int depth = 0;
    private final int[] frameToken = new int[MOST_VISITS];
    private final int[] frameEnvironment = new int[MOST_VISITS];
    private final boolean[] frameHasFirst = new boolean[MOST_VISITS];
    private final boolean[] frameFirstIsClosure = new boolean[MOST_VISITS];
    private final int[] frameFirstValue = new int[MOST_VISITS];

    public AmbEvaluator(int maxChoices, int maxAlloc) {
        this.maxChoices = clamp(maxChoices, MOST_CHOICES);
        this.maxAlloc = clamp(maxAlloc, MOST_ALLOC);
    }

    public void reset() {
        held = 0;
        stage = EDIT;
        clearSearch();
    }

    public boolean token(int kind, int arg) {
        if (stage != EDIT || held >= MAX_TOKENS) {
            return false;
        }
        if (kind < NUM || kind > SEQ) {
            return false;
        }
        boolean named = namesVariable(kind);
        if (named && (arg < 0 || arg >= VARIABLES)) {
            return false;
        }
        kinds[held] = kind;
        args[held] = named || kind == NUM ? arg : 0;
        held++;
        return true;
    }

    public int compile() {
        if (stage != EDIT) {
            return REFUSED;
        }
        int answer = checkShape();
        if (answer != OK) {
            return answer;
        }
        findEnds();
        if (!allBound()) {
            return ERR_UNBOUND;
        }
        stage = READY;
        clearSearch();
        return OK;
    }

    public int next() {
        if (stage == EDIT) {
            return REFUSED;
        }
        for (int examined = 0; examined < MOST_PATHS && pathLeft; examined++) {
            runPath();
            boolean succeeded = !failed;
            if (succeeded) {
                keepSolution();
            } else {
                failures++;
            }
            moveToNextPath();
            if (succeeded) {
                return SOLUTION;
            }
        }
        stage = DONE;
        return EXHAUSTED;
    }

    public boolean restart() {
        if (stage == EDIT) {
            return false;
        }
        stage = READY;
        clearSearch();
        return true;
    }

    public int phase() {
        return stage;
    }

    public int kind() {
        return lastKind;
    }

    public int value() {
        return lastValue;
    }

    public int solutionCount() {
        return solutions;
    }

    public int failureCount() {
        return failures;
    }

    public int choiceCount() {
        return lastChoiceCount;
    }

    public int choiceBit(int i) {
        if (i < 0 || i >= lastChoiceCount) {
            return -1;
        }
        return (lastChoices >> (lastChoiceCount - 1 - i)) & 1;
    }

    public int allocCount() {
        return lastAllocCount;
    }

    public int tokenCount() {
        return held;
    }

    public int tokenKind(int i) {
        return holds(i) ? kinds[i] : -1;
    }

    public int tokenArg(int i) {
        return holds(i) ? args[i] : 0;
    }

    private static int clamp(int given, int greatest) {
        if (given < 1) {
            return 1;
        }
        return given > greatest ? greatest : given;
    }

    private static boolean namesVariable(int kind) {
        return kind == VAR || kind == LET || kind == LAM || kind == SET;
    }

    private static int arity(int kind) {
        switch (kind) {
            case NUM:
            case VAR:
            case FAIL:
                return 0;
            case LAM:
            case SET:
                return 1;
            case IF:
                return 3;
            default:
                return 2;
        }
    }

    private boolean holds(int i) {
        return i >= 0 && i < held;
    }

    private int checkShape() {
        if (held == 0) {
            return ERR_EMPTY;
        }
        int need = 1;
        for (int i = 0; i < held; i++) {
            if (need == 0) {
                return ERR_EXTRA;
            }
            need = need - 1 + arity(kinds[i]);
        }
        return need > 0 ? ERR_INCOMPLETE : OK;
    }

    // Backwards, because an expression ends where the last of its operands ends.
    private void findEnds() {
        for (int i = held - 1; i >= 0; i--) {
            int end = i + 1;
            int operands = arity(kinds[i]);
            for (int n = 0; n < operands; n++) {
                end = endOf(end);
            }
            ends[i] = end;
        }
    }

    private int endOf(int i) {
        return i >= 0 && i < held ? ends[i] : held;
    }

    private boolean allBound() {
        for (int i = 0; i < held; i++) {
            if ((kinds[i] == VAR || kinds[i] == SET) && !isBound(i, args[i])) {
                return false;
            }
        }
        return true;
    }

    private boolean isBound(int user, int variable) {
        for (int i = 0; i < user; i++) {
            boolean binder = kinds[i] == LET || kinds[i] == LAM;
            if (binder && args[i] == variable) {
                int body = kinds[i] == LAM ? i + 1 : endOf(i + 1);
                if (body <= user && user < ends[i]) {
                    return true;
                }
            }
        }
        return false;
    }

    private void clearSearch() {
        solutions = 0;
        failures = 0;
        lastKind = KIND_NONE;
        lastValue = 0;
        lastChoices = 0;
        lastChoiceCount = 0;
        lastAllocCount = 0;
        steering = 0;
        steeringLength = 0;
        pathLeft = true;
    }

    private void keepSolution() {
        solutions++;
        lastKind = resultIsClosure ? KIND_CLOSURE : KIND_INT;
        lastValue = resultIsClosure ? lambdaOf(resultValue) : resultValue;
        lastChoices = steering;
        lastChoiceCount = choicesMade;
        lastAllocCount = allocsMade;
    }

    // The next vector in order turns the last 0 into a 1 and drops what came after it.
    private void moveToNextPath() {
        for (int n = 0; n < MOST_CHOICES && (steering & 1) == 1; n++) {
            steering >>= 1;
            steeringLength--;
        }
        pathLeft = steeringLength > 0;
        steering |= 1;
    }

    private void runPath() {
        failed = false;
        choicesMade = 0;
        allocsMade = 0;
        depth = 0;
        environment = NO_LOCATION;
        visitNext(0);
        boolean ended = false;
        for (int step = 0; step < MOST_STEPS && !ended; step++) {
            if (visiting) {
                visitToken();
            } else {
                resumeFrame();
            }
            ended = failed || (!visiting && depth == 0);
        }
    }

    private void visitNext(int i) {
        visiting = true;
        position = i;
    }

    private void visitToken() {
        int at = position;
        if (!holds(at)) {
            failed = true;
            return;
        }
        switch (kinds[at]) {
            case NUM:
                giveInt(args[at]);
                break;
            case VAR:
                readVariable(args[at]);
                break;
            case FAIL:
                failed = true;
                break;
            case AMB:
                choose(at);
                break;
            case LAM:
                makeClosure(at);
                break;
            default:
                openFrame(at);
                break;
        }
    }

    private void giveInt(int number) {
        visiting = false;
        resultIsClosure = false;
        resultValue = number;
    }

    private void readVariable(int variable) {
        int location = find(variable);
        if (location == NO_LOCATION) {
            failed = true;
            return;
        }
        visiting = false;
        resultIsClosure = locationIsClosure[location];
        resultValue = locationValue[location];
    }

    private void assign(int variable) {
        int location = find(variable);
        if (location == NO_LOCATION) {
            failed = true;
            return;
        }
        locationIsClosure[location] = resultIsClosure;
        locationValue[location] = resultValue;
    }

    private int find(int variable) {
        int location = environment;
        for (int n = 0; n < MOST_ALLOC && location >= 0 && location < MOST_ALLOC; n++) {
            if (locationVariable[location] == variable) {
                return location;
            }
            location = locationOuter[location];
        }
        return NO_LOCATION;
    }

    private void choose(int at) {
        if (choicesMade >= maxChoices) {
            failed = true;
            return;
        }
        if (choicesMade >= steeringLength) {
            steering <<= 1;
            steeringLength++;
        }
        choicesMade++;
        int bit = (steering >> (steeringLength - choicesMade)) & 1;
        int second = endOf(at + 1);
        visitNext(bit == 0 ? at + 1 : second);
    }

    private void makeClosure(int at) {
        if (allocsMade >= maxAlloc) {
            failed = true;
            return;
        }
        closureToken[allocsMade] = at;
        closureEnvironment[allocsMade] = environment;
        visiting = false;
        resultIsClosure = true;
        resultValue = allocsMade;
        allocsMade++;
    }

    private int lambdaOf(int closure) {
        return closure >= 0 && closure < MOST_ALLOC ? closureToken[closure] : 0;
    }

    // The result becomes the content of a new location, and outer with it the environment.
    private void bind(int variable, int outer) {
        if (allocsMade >= maxAlloc) {
            failed = true;
            return;
        }
        locationVariable[allocsMade] = variable;
        locationOuter[allocsMade] = outer;
        locationIsClosure[allocsMade] = resultIsClosure;
        locationValue[allocsMade] = resultValue;
        environment = allocsMade;
        allocsMade++;
    }

    private void openFrame(int at) {
        if (depth >= MOST_VISITS) {
            failed = true;
            return;
        }
        frameToken[depth] = at;
        frameEnvironment[depth] = environment;
        frameHasFirst[depth] = false;
        depth++;
        visitNext(at + 1);
    }

    private void resumeFrame() {
        if (depth <= 0) {
            failed = true;
            return;
        }
        depth--;
        int at = frameToken[depth];
        int kind = tokenKind(at);
        int arg = tokenArg(at);
        int second = endOf(at + 1);
        environment = frameEnvironment[depth];
        switch (kind) {
            case IF:
                branch(second);
                break;
            case REQ:
                require(second);
                break;
            case LET:
                bind(arg, environment);
                visitNext(second);
                break;
            case SET:
                assign(arg);
                break;
            case SEQ:
                visitNext(second);
                break;
            default:
                if (!frameHasFirst[depth]) {
                    holdFirst(second);
                } else if (kind == APP) {
                    apply();
                } else {
                    calculate(kind);
                }
                break;
        }
    }

    private void branch(int second) {
        if (resultIsClosure) {
            failed = true;
            return;
        }
        int third = endOf(second);
        visitNext(resultValue != 0 ? second : third);
    }

    private void require(int second) {
        if (resultIsClosure || resultValue == 0) {
            failed = true;
            return;
        }
        visitNext(second);
    }

    // A first value of the wrong kind is not refused yet: the second operand may still make
    // choices, and each of them is a failing path of its own.
    private void holdFirst(int second) {
        frameHasFirst[depth] = true;
        frameFirstIsClosure[depth] = resultIsClosure;
        frameFirstValue[depth] = resultValue;
        depth++;
        visitNext(second);
    }

    private void apply() {
        int closure = frameFirstValue[depth];
        if (!frameFirstIsClosure[depth] || closure < 0 || closure >= MOST_ALLOC) {
            failed = true;
            return;
        }
        int lambda = closureToken[closure];
        int variable = tokenArg(lambda);
        bind(variable, closureEnvironment[closure]);
        visitNext(lambda + 1);
    }

    private void calculate(int kind) {
        if (frameFirstIsClosure[depth] || resultIsClosure) {
            failed = true;
            return;
        }
        int number = combine(kind, frameFirstValue[depth], resultValue);
        giveInt(number);
    }

    private static int combine(int kind, int a, int b) {
        switch (kind) {
            case ADD:
                return a + b;
            case SUB:
                return a - b;
            case MUL:
                return a * b;
            case LT:
                return a < b ? 1 : 0;
            default:
                return a == b ? 1 : 0;
        }
    }
}
