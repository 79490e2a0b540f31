/** Promise 5 and promise 6, with the paths of a search, sentence by sentence. */
final class SearchTest {
    private SearchTest() {
    }

    public static void main(String[] arguments) {
        refusedInEdit();
        exhaustedInDone();
        afterTheLastExamined();
        failingPathsAddOne();
        becomesTheLastSolution();
        solutionCountRises();
        staysReady();
        noPathLeft();
        eachPathOnce();
        tokensAndLimitsStay();
        nthSuccessfulPath();
        afreshFromAnEmptyStore();
        failureCountWhileReady();
        countsInDone();
        noSuccessfulPath();
        pathsWithoutChoices();
        pathsOfManyChoices();
        noneIsAPrefix();
        lexicographic();
        nothingSeenByAnotherPath();
        alwaysEnds();
        restartInEdit();
        restartToReady();
        restartAtTheFirstPath();
        restartCounts();
        restartClears();
        restartKeepsTokensAndLimits();
        sameOrderAndOutcomes();
        Checks.finish();
    }

    /** Programs.NUMBERS, but only the paths of the numbers that pass the condition on VAR:7 succeed. */
    private static String numbersWith(String condition) {
        return "LET:7 " + Programs.NUMBERS + " REQ " + condition + " VAR:7";
    }

    private static String numberIs(int number) {
        return numbersWith("EQ VAR:7 NUM:" + number);
    }

    private static String numbersFrom(int first) {
        return numbersWith("LT NUM:" + (first - 1) + " VAR:7");
    }

    private static String numbersBelow(int end) {
        return numbersWith("LT VAR:7 NUM:" + end);
    }

    private static String sixBits(int number) {
        String bits = Integer.toBinaryString(number);
        return "0".repeat(6 - bits.length()) + bits;
    }

    private static void refusedInEdit() {
        Checks.sentence("Promise 5", "EDIT: answers REFUSED and changes nothing.");
        for (Points.Point point : Points.in(AmbEvaluator.EDIT)) {
            Points.dueNoChange("next", point,
                x -> Checks.due("next at the point: " + point.name, x.next(), AmbEvaluator.REFUSED));
        }
    }

    private static void exhaustedInDone() {
        Checks.sentence("Promise 5", "DONE: answers EXHAUSTED and changes nothing.");
        for (Points.Point point : Points.in(AmbEvaluator.DONE)) {
            AmbEvaluator x = point.reach();
            String before = Checks.state(x);
            for (int call = 0; call < 70; call++) {
                Checks.due("next at the point: " + point.name, x.next(), AmbEvaluator.EXHAUSTED);
                Checks.due("state at the point: " + point.name, Checks.state(x), before);
            }
            Points.dueNoChange("next", point, AmbEvaluator::next);
        }
    }

    private static void afterTheLastExamined() {
        Checks.sentence("Promise 5", "READY: examines the paths after the last one examined, in search order.");
        AmbEvaluator x = Checks.compiled(6, 16, Programs.NUMBERS);
        for (int n = 0; n < 64; n++) {
            Checks.due("next " + n, x.next(), AmbEvaluator.SOLUTION);
            Checks.due("solution " + n, Checks.solution(x), sixBits(n) + ">" + n + "@" + Programs.NUMBERS_ALLOCS);
        }
        Checks.due("next 64", x.next(), AmbEvaluator.EXHAUSTED);
    }

    private static void failingPathsAddOne() {
        Checks.sentence("Promise 5", "In READY, each failing path examined adds 1 to failureCount.");
        for (int first = 0; first < 64; first++) {
            AmbEvaluator x = Checks.compiled(6, 16, numberIs(first));
            Checks.due(first + " failing paths, then a solution", x.next(), AmbEvaluator.SOLUTION);
            Checks.due("value", x.value(), first);
            Checks.due("failureCount before solution " + first, x.failureCount(), first);
            Checks.due("no further solution", x.next(), AmbEvaluator.EXHAUSTED);
            Checks.due("failureCount at the end", x.failureCount(), 63);
        }
        Checks.dueSearch("AMB NUM:1 AMB FAIL AMB FAIL AMB NUM:2 AMB FAIL NUM:3",
            "0>1@0!0 1110>2@0!2 11111>3@0!3 end!3");
    }

    private static void becomesTheLastSolution() {
        Checks.sentence("Promise 5", "At the first successful path: that path becomes the last solution: "
            + "its kind, value, choice vector and allocation count");
        AmbEvaluator x = Checks.compiled(6, 16, "AMB AMB FAIL LET:0 LAM:1 NUM:4 NUM:-8 AMB LAM:2 VAR:2 NUM:0");
        x.next();
        Checks.dueLast("first", x, AmbEvaluator.KIND_INT, -8, "01", 2);
        x.next();
        Checks.dueLast("second", x, AmbEvaluator.KIND_CLOSURE, 8, "10", 1);
        x.next();
        Checks.dueLast("third", x, AmbEvaluator.KIND_INT, 0, "11", 0);
    }

    private static void solutionCountRises() {
        Checks.sentence("Promise 5", "solutionCount rises by 1");
        AmbEvaluator x = Checks.compiled(6, 16, numbersBelow(56));
        for (int n = 1; n <= 56; n++) {
            x.next();
            Checks.due("at a solution", x.solutionCount(), n);
        }
        x.next();
        Checks.due("at the end", x.solutionCount(), 56);
    }

    private static void staysReady() {
        Checks.sentence("Promise 5", "the answer is SOLUTION and the phase stays READY.");
        AmbEvaluator x = Checks.compiled(1, 1, "NUM:1");
        Checks.due("the only path", x.next(), AmbEvaluator.SOLUTION);
        Checks.due("phase after the only path", x.phase(), AmbEvaluator.READY);
        x = Checks.compiled(1, 1, "AMB NUM:1 NUM:2");
        for (int call = 0; call < 2; call++) {
            Checks.due("path " + call, x.next(), AmbEvaluator.SOLUTION);
            Checks.due("phase after path " + call, x.phase(), AmbEvaluator.READY);
        }
        x = Checks.compiled(6, 16, numberIs(63));
        Checks.due("the last of 64 paths", x.next(), AmbEvaluator.SOLUTION);
        Checks.due("phase after the last of 64 paths", x.phase(), AmbEvaluator.READY);
    }

    private static void noPathLeft() {
        Checks.sentence("Promise 5", "If no path is left, the phase becomes DONE, the last solution is unchanged "
            + "and the answer is EXHAUSTED.");
        String[] programs = {"LET:0 NUM:1 AMB FAIL VAR:0", "LET:0 NUM:1 AMB FAIL AMB VAR:0 FAIL",
            "LET:0 NUM:1 AMB FAIL AMB VAR:0 LET:0 NUM:9 LET:0 NUM:8 FAIL",
            "LET:0 NUM:1 AMB FAIL AMB VAR:0 AMB FAIL FAIL"};
        String[] bits = {"1", "10", "10", "10"};
        int[] failures = {1, 2, 2, 3};
        for (int i = 0; i < programs.length; i++) {
            AmbEvaluator x = Checks.searched(programs[i], 1);
            Checks.dueLast(programs[i], x, AmbEvaluator.KIND_INT, 1, bits[i], 1);
            Checks.due(programs[i], x.next(), AmbEvaluator.EXHAUSTED);
            Checks.dueCounts(programs[i], x, AmbEvaluator.DONE, 1, failures[i]);
            Checks.dueLast(programs[i] + " at the end", x, AmbEvaluator.KIND_INT, 1, bits[i], 1);
        }
        AmbEvaluator x = Checks.searched("LAM:0 VAR:0", 2);
        Checks.dueLast("a closure, at the end", x, AmbEvaluator.KIND_CLOSURE, 0, "", 1);
    }

    private static void eachPathOnce() {
        Checks.sentence("Promise 5", "Each path is examined once per search.");
        AmbEvaluator x = Checks.compiled(6, 16, Programs.NUMBERS);
        boolean[] seen = new boolean[64];
        for (int n = 0; n < 64; n++) {
            x.next();
            int value = x.value() & 63;
            Checks.due("seen before: " + value, seen[value], false);
            seen[value] = true;
        }
        x.next();
        Checks.dueCounts("64 paths in all", x, AmbEvaluator.DONE, 64, 0);
        Checks.dueSearch(numberIs(-1), "end!64");
    }

    private static void tokensAndLimitsStay() {
        Checks.sentence("Promise 5", "Tokens and limits never change.");
        AmbEvaluator x = Checks.compiled(2, 1, Programs.MIXED);
        for (int call = 0; call < 6; call++) {
            x.next();
            Checks.dueTokens("after a call of next", x, Programs.MIXED);
        }
        Limits.due("after a search", x, 2, 1);
    }

    private static void nthSuccessfulPath() {
        Checks.sentence("Promise 5", "the last solution equals the n-th successful path in lexicographic order of "
            + "choice vectors");
        String allocs = "@" + (Programs.NUMBERS_ALLOCS + 1);
        AmbEvaluator x = Checks.compiled(6, 16, numbersFrom(10));
        for (int n = 10; n < 64; n++) {
            x.next();
            Checks.due("solution " + (n - 9), Checks.solution(x), sixBits(n) + ">" + n + allocs);
        }
        x.next();
        Checks.due("in DONE", Checks.solution(x), sixBits(63) + ">63" + allocs);
        x.restart();
        x.next();
        Checks.due("after a restart", Checks.solution(x), sixBits(10) + ">10" + allocs);
    }

    private static void afreshFromAnEmptyStore() {
        Checks.sentence("Promise 5", "Each path is evaluated afresh from an empty store, steered by its choice vector, "
            + "under the maxChoices and maxAlloc limits.");
        Checks.dueSearch("LET:0 NUM:0 SEQ SET:0 ADD VAR:0 NUM:1 SEQ AMB NUM:1 NUM:2 VAR:0",
            "0>1@1!0 1>1@1!0 end!0");
        Checks.dueSearchWith(2, 2, "LET:0 AMB NUM:1 NUM:2 LET:1 AMB NUM:3 NUM:4 ADD VAR:0 VAR:1",
            "00>4@2!0 01>5@2!0 10>5@2!0 11>6@2!0 end!0");
        Checks.dueSearchWith(1, 2, "LET:0 AMB NUM:1 NUM:2 LET:1 AMB NUM:3 NUM:4 ADD VAR:0 VAR:1", "end!2");
        Checks.dueSearchWith(2, 1, "LET:0 AMB NUM:1 NUM:2 LET:1 AMB NUM:3 NUM:4 ADD VAR:0 VAR:1", "end!4");
    }

    private static void failureCountWhileReady() {
        Checks.sentence("Promise 5", "While the phase is READY, failureCount() is 0 if solutionCount() is 0; otherwise "
            + "it equals the number of failing paths whose choice vector precedes the last solution's choice vector.");
        AmbEvaluator x = Checks.compiled(6, 16, "AMB FAIL AMB AMB NUM:1 FAIL AMB AMB FAIL NUM:2 FAIL");
        Checks.dueCounts("before next", x, AmbEvaluator.READY, 0, 0);
        x.next();
        Checks.dueCounts("at 100", x, AmbEvaluator.READY, 1, 1);
        x.next();
        Checks.dueCounts("at 1101", x, AmbEvaluator.READY, 2, 3);
        x.restart();
        Checks.dueCounts("after a restart", x, AmbEvaluator.READY, 0, 0);
    }

    private static void countsInDone() {
        Checks.sentence("Promise 5", "When the phase is DONE, solutionCount() equals the total number of "
            + "successful paths and failureCount() the total number of failing paths.");
        for (int end = 0; end <= 64; end++) {
            AmbEvaluator x = Checks.compiled(6, 16, numbersBelow(end));
            Checks.search(x);
            Checks.dueCounts("solutions, then failing paths", x, AmbEvaluator.DONE, end, 64 - end);
            x = Checks.compiled(6, 16, numbersFrom(end));
            Checks.search(x);
            Checks.dueCounts("failing paths, then solutions", x, AmbEvaluator.DONE, 64 - end, end);
        }
        Checks.dueSearch("NUM:1", "->1@0!0 end!0");
        Checks.dueSearch("FAIL", "end!1");
    }

    private static void noSuccessfulPath() {
        Checks.sentence("Promise 5", "If the program has no successful path, the first call in READY adds all failing "
            + "paths to failureCount, moves to DONE and answers EXHAUSTED.");
        String[] programs = {"FAIL", "REQ NUM:0 NUM:1", "AMB FAIL FAIL", "AMB FAIL AMB FAIL FAIL",
            "AMB AMB FAIL FAIL AMB FAIL FAIL", "SEQ AMB AMB NUM:1 NUM:2 AMB NUM:3 NUM:4 AMB FAIL FAIL",
            numberIs(64)};
        int[] failures = {1, 1, 2, 3, 4, 8, 64};
        for (int i = 0; i < programs.length; i++) {
            AmbEvaluator x = Checks.compiled(6, 16, programs[i]);
            for (int round = 0; round < 2; round++) {
                Checks.dueCounts(programs[i] + " before next", x, AmbEvaluator.READY, 0, 0);
                Checks.due(programs[i], x.next(), AmbEvaluator.EXHAUSTED);
                Checks.dueCounts(programs[i], x, AmbEvaluator.DONE, 0, failures[i]);
                Checks.dueCleared(programs[i], x);
                x.restart();
            }
        }
    }

    private static void pathsWithoutChoices() {
        Checks.sentence("The language", "It is steered by its choice vector d1..dk: a vector without choices, k = 0");
        Checks.dueSearchWith(1, 1, "NUM:5", "->5@0!0 end!0");
        Checks.dueSearchWith(1, 1, "IF NUM:1 NUM:5 AMB NUM:6 NUM:7", "->5@0!0 end!0");
        Checks.dueSearchWith(1, 1, "LAM:0 AMB NUM:6 NUM:7", "->L0@1!0 end!0");
        Checks.dueSearchWith(1, 1, "REQ NUM:0 AMB NUM:6 NUM:7", "end!1");
    }

    private static void pathsOfManyChoices() {
        Checks.sentence("The language", "(k <= maxChoices). It either succeeds with the program's value or fails.");
        for (int limit = 1; limit <= 6; limit++) {
            AmbEvaluator x = Checks.compiled(limit, 16, "LET:0 LAM:1 AMB APP VAR:1 VAR:1 NUM:1 APP VAR:0 VAR:0");
            // The path of zeros alone meets the limit, then each path turns one more zero into its last bit.
            Checks.due("failing before the first", x.next(), AmbEvaluator.SOLUTION);
            Checks.due("the deepest solution", x.choiceCount(), limit);
            Checks.due("failureCount", x.failureCount(), 1);
            Checks.due("its last bit", x.choiceBit(limit - 1), 1);
            for (int k = limit - 1; k >= 1; k--) {
                x.next();
                Checks.dueLast("limit " + limit, x, AmbEvaluator.KIND_INT, 1, "0".repeat(k - 1) + "1", 2 + k);
            }
            Checks.due("limit " + limit, x.next(), AmbEvaluator.EXHAUSTED);
            Checks.dueCounts("limit " + limit, x, AmbEvaluator.DONE, limit, 1);
        }
    }

    private static void noneIsAPrefix() {
        Checks.sentence("The language", "The paths are exactly the vectors whose evaluation ends using exactly those "
            + "choices; none is a prefix of another.");
        Checks.dueSearch("AMB NUM:1 AMB NUM:2 AMB NUM:3 NUM:4", "0>1@0!0 10>2@0!0 110>3@0!0 111>4@0!0 end!0");
        Checks.dueSearch("AMB AMB AMB NUM:1 NUM:2 NUM:3 NUM:4", "000>1@0!0 001>2@0!0 01>3@0!0 1>4@0!0 end!0");
        Checks.dueSearch("IF AMB NUM:0 NUM:1 NUM:7 AMB NUM:8 NUM:9", "00>8@0!0 01>9@0!0 1>7@0!0 end!0");
        Checks.dueSearch("AMB SEQ AMB NUM:1 NUM:2 FAIL NUM:3", "1>3@0!2 end!2");
        Checks.dueSearch("AMB SEQ FAIL AMB NUM:1 NUM:2 NUM:3", "1>3@0!1 end!1");
    }

    private static void lexicographic() {
        Checks.sentence("The language", "The search order is lexicographic on choice vectors, "
            + "bit by bit with 0 before 1.");
        Checks.dueSearch("AMB NUM:9 NUM:8", "0>9@0!0 1>8@0!0 end!0");
        Checks.dueSearch("SUB AMB NUM:1 NUM:2 AMB NUM:10 NUM:20",
            "00>-9@0!0 01>-19@0!0 10>-8@0!0 11>-18@0!0 end!0");
        Checks.dueSearch("AMB AMB NUM:1 AMB NUM:2 NUM:3 AMB AMB NUM:4 NUM:5 NUM:6",
            "00>1@0!0 010>2@0!0 011>3@0!0 100>4@0!0 101>5@0!0 11>6@0!0 end!0");
        Checks.dueSearch(Programs.chainOfChoices(6), "0>0@0!0 10>1@0!0 110>2@0!0 1110>3@0!0 11110>4@0!0 111110>5@0!0 "
            + "111111>6@0!0 end!0");
    }

    private static void nothingSeenByAnotherPath() {
        Checks.sentence("The language", "Nothing done on one path (SET, allocation, choices) "
            + "is seen by any other path.");
        Checks.dueSearch("LET:0 NUM:0 SEQ AMB SET:0 NUM:5 NUM:1 VAR:0", "0>5@1!0 1>0@1!0 end!0");
        Checks.dueSearch("LET:0 NUM:0 SEQ AMB SEQ SET:0 NUM:5 FAIL NUM:1 VAR:0", "1>0@1!1 end!1");
        Checks.dueSearch("LET:0 NUM:0 SEQ AMB SET:0 LAM:1 VAR:1 NUM:1 VAR:0", "0>L5@2!0 1>0@1!0 end!0");
        Checks.dueSearchWith(6, 1, "AMB LET:0 NUM:1 LET:0 NUM:2 NUM:3 LAM:0 VAR:0", "1>L6@1!1 end!1");
        Checks.dueSearchWith(6, 1, "AMB LET:0 NUM:1 NUM:3 LET:0 NUM:2 VAR:0", "0>3@1!0 1>2@1!0 end!0");
        Checks.dueSearchWith(2, 1, "AMB AMB AMB NUM:1 NUM:2 NUM:3 AMB NUM:4 NUM:5",
            "01>3@0!1 10>4@0!1 11>5@0!1 end!1");
        // A failing path leaves expressions open, which the next one does not go on with.
        Checks.dueSearch("ADD NUM:1 MUL NUM:2 AMB REQ NUM:0 NUM:4 NUM:5", "1>11@0!1 end!1");
    }

    private static void alwaysEnds() {
        Checks.sentence("What it is", "The per-path limits on choices and allocations, set in the constructor, "
            + "keep every path finite, so the search always ends and reports exhaustion.");
        String self = "LET:0 LAM:1 APP VAR:1 VAR:1 APP VAR:0 VAR:0";
        String deep = "LET:0 LAM:1 " + "ADD NUM:1 ".repeat(11) + "APP VAR:1 VAR:1 APP VAR:0 VAR:0";
        String wide = "LET:0 LAM:1 ADD AMB NUM:1 NUM:1 APP VAR:1 VAR:1 APP VAR:0 VAR:0";
        String first = "LET:0 LAM:1 ADD APP VAR:1 VAR:1 AMB NUM:1 NUM:1 APP VAR:0 VAR:0";
        for (int allocs = 1; allocs <= 16; allocs++) {
            for (int choices = 1; choices <= 6; choices++) {
                Checks.dueSearchWith(choices, allocs, self, "end!1");
                Checks.dueSearchWith(choices, allocs, deep, "end!1");
                Checks.dueSearchWith(choices, allocs, first, "end!1");
                // Two allocations come before the first choice, and one between any two.
                int made = Math.min(choices, Math.max(0, allocs - 2));
                Checks.dueSearchWith(choices, allocs, wide, "end!" + (1 << made));
            }
        }
        String down = "LET:0 NUM:0 SEQ SET:0 LAM:1 IF VAR:1 " + "SET:1 ".repeat(16)
            + "APP VAR:0 SUB VAR:1 NUM:1 NUM:7 APP VAR:0 NUM:";
        Checks.dueSearch(down + 13, "->7@16!0 end!0");
        Checks.dueSearch(down + 14, "end!1");
        // More than 230 expressions are open at once, and all of them are answered in the end.
        Checks.dueSearch("LET:0 NUM:0 APP SET:0 LAM:1 IF VAR:1 " + "SET:1 ".repeat(18)
            + "APP VAR:0 SUB VAR:1 NUM:1 NUM:7 NUM:13", "->7@16!0 end!0");
    }

    private static void restartInEdit() {
        Checks.sentence("Promise 6", "restart() in phase EDIT answers false and changes nothing.");
        for (Points.Point point : Points.in(AmbEvaluator.EDIT)) {
            Points.dueNoChange("restart", point,
                x -> Checks.due("restart at the point: " + point.name, x.restart(), false));
        }
    }

    private static void restartToReady() {
        Checks.sentence("Promise 6", "In READY or DONE it sets the phase to READY and answers true.");
        for (Points.Point point : Points.in(AmbEvaluator.READY, AmbEvaluator.DONE)) {
            AmbEvaluator x = point.reach();
            for (int times = 0; times < 3; times++) {
                Checks.due("restart at the point: " + point.name, x.restart(), true);
                Checks.due("phase after it", x.phase(), AmbEvaluator.READY);
            }
        }
    }

    private static void restartAtTheFirstPath() {
        Checks.sentence("Promise 6", "places the search back at the first path");
        for (int nexts = 0; nexts <= 66; nexts++) {
            AmbEvaluator x = Checks.searched(Programs.NUMBERS, nexts);
            x.restart();
            Checks.due("next", x.next(), AmbEvaluator.SOLUTION);
            Checks.due("after " + nexts, Checks.solution(x), "000000>0@" + Programs.NUMBERS_ALLOCS);
        }
    }

    private static void restartCounts() {
        Checks.sentence("Promise 6", "sets solutionCount and failureCount to 0");
        for (Points.Point point : Points.in(AmbEvaluator.READY, AmbEvaluator.DONE)) {
            AmbEvaluator x = point.reach();
            x.restart();
            Checks.due("solutionCount at the point: " + point.name, x.solutionCount(), 0);
            Checks.due("failureCount at the point: " + point.name, x.failureCount(), 0);
        }
    }

    private static void restartClears() {
        Checks.sentence("Promise 6", "clears the last solution");
        for (Points.Point point : Points.in(AmbEvaluator.READY, AmbEvaluator.DONE)) {
            AmbEvaluator x = point.reach();
            x.restart();
            Checks.dueCleared("restart at the point: " + point.name, x);
        }
    }

    private static void restartKeepsTokensAndLimits() {
        Checks.sentence("Promise 6", "The tokens and limits are kept.");
        for (int nexts = 0; nexts <= 4; nexts++) {
            AmbEvaluator x = Checks.compiled(2, 1, Programs.MIXED);
            for (int call = 0; call < nexts; call++) {
                x.next();
            }
            x.restart();
            Checks.dueTokens("after a restart", x, Programs.MIXED);
            Checks.due("its search", Checks.search(x), Programs.MIXED_OUTCOMES);
            Limits.due("after " + nexts + " calls of next and a restart", x, 2, 1);
        }
        AmbEvaluator x = Checks.compiled(1, 2, "AMB AMB NUM:1 NUM:2 LET:0 LAM:1 NUM:1 LET:2 NUM:3 NUM:4");
        for (int round = 0; round < 3; round++) {
            Checks.due("over both limits, round " + round, Checks.search(x), "end!2");
            x.restart();
        }
    }

    private static void sameOrderAndOutcomes() {
        Checks.sentence("Promise 6", "The following next() calls examine all paths again from the first, "
            + "in the same order and with the same outcomes.");
        for (Points.Point point : Points.in(AmbEvaluator.READY, AmbEvaluator.DONE)) {
            AmbEvaluator x = point.reach();
            x.restart();
            String first = Checks.search(x);
            for (int round = 0; round < 3; round++) {
                x.restart();
                Checks.due("once more at the point: " + point.name, Checks.search(x), first);
            }
        }
        for (int nexts = 0; nexts <= 4; nexts++) {
            AmbEvaluator x = Checks.searched(Programs.MIXED, nexts);
            x.restart();
            Checks.due("after " + nexts, Checks.search(x), Programs.MIXED_OUTCOMES);
        }
    }
}
