/** The capacities and their clamping, promise 1 and promise 2, sentence by sentence. */
final class ConstructionTest {
    private ConstructionTest() {
    }

    public static void main(String[] arguments) {
        maxChoicesFromOneToSix();
        maxAllocFromOneToSixteen();
        belowTheLeast();
        aboveTheGreatest();
        anyInt();
        limitsForLife();
        startInEdit();
        startWithCountsOfZero();
        startCleared();
        resetInEveryPhase();
        resetRemovesAllTokens();
        resetToEdit();
        resetCounts();
        resetClears();
        resetKeepsLimits();
        Checks.finish();
    }

    private static void maxChoicesFromOneToSix() {
        Checks.sentence("What it is", "maxChoices is the most AMB choices one path may make, range 1..6.");
        String[] solutions = {"0>0@0!0 ", "10>1@0!0 ", "110>2@0!0 ", "1110>3@0!0 ", "11110>4@0!0 ", "111110>5@0!0 "};
        String before = "";
        for (int limit = 1; limit <= 6; limit++) {
            before += solutions[limit - 1];
            Checks.dueSearchWith(limit, 1, Programs.chainOfChoices(7), before + "end!1");
            Checks.dueSearchWith(limit, 1, Programs.chainOfChoices(limit + 1), before + "end!1");
            String all = "1".repeat(limit) + ">" + limit + "@0!0 ";
            Checks.dueSearchWith(limit, 1, Programs.chainOfChoices(limit), before + all + "end!0");
        }
    }

    private static void maxAllocFromOneToSixteen() {
        Checks.sentence("What it is", "maxAlloc is the most allocations one path may make, range 1..16.");
        for (int limit = 1; limit <= 16; limit++) {
            for (int made = 1; made <= 18; made++) {
                String last = made % 2 == 0 ? ">3@" : ">L" + 3 * (made / 2) + "@";
                String want = made <= limit ? "-" + last + made + "!0 end!0" : "end!1";
                Checks.dueSearchWith(1, limit, Programs.chainOfAllocations(made), want);
            }
        }
    }

    private static void belowTheLeast() {
        Checks.sentence("What it is", "Clamping: a value below the least becomes the least");
        int[] below = {0, -1, -2, -6, -16, -255, -65535, Checks.LEAST + 1, Checks.LEAST};
        for (int value : below) {
            Limits.due("maxChoices " + value, new AmbEvaluator(value, 9), 1, 9);
            Limits.due("maxAlloc " + value, new AmbEvaluator(4, value), 4, 1);
        }
        Limits.due("the least itself", new AmbEvaluator(1, 1), 1, 1);
        Limits.due("just above the least", new AmbEvaluator(2, 2), 2, 2);
    }

    private static void aboveTheGreatest() {
        Checks.sentence("What it is", "and a value above the greatest becomes the greatest.");
        int[] above = {17, 18, 32, 64, 256, 259, 65536, 65538, Checks.MOST - 1, Checks.MOST};
        for (int value : above) {
            Limits.due("maxChoices " + value, new AmbEvaluator(value, 9), 6, 9);
            Limits.due("maxAlloc " + value, new AmbEvaluator(4, value), 4, 16);
        }
        Limits.due("just above", new AmbEvaluator(7, 17), 6, 16);
        Limits.due("the greatest themselves", new AmbEvaluator(6, 16), 6, 16);
        Limits.due("just below the greatest", new AmbEvaluator(5, 15), 5, 15);
        Limits.due("each has a range of its own", new AmbEvaluator(16, 6), 6, 6);
    }

    private static void anyInt() {
        Checks.sentence("Promise 1", "Any int is accepted, including negative values and Integer.MIN_VALUE/"
            + "Integer.MAX_VALUE, which become the least and greatest value respectively.");
        int[] given = {Checks.LEAST, -3, Checks.MOST};
        int[] choices = {1, 1, 6};
        int[] allocs = {1, 1, 16};
        for (int i = 0; i < given.length; i++) {
            for (int j = 0; j < given.length; j++) {
                AmbEvaluator x = new AmbEvaluator(given[i], given[j]);
                Limits.due("given " + given[i] + ", " + given[j], x, choices[i], allocs[j]);
            }
        }
    }

    private static void limitsForLife() {
        Checks.sentence("Promise 1", "These clamped limits hold for the whole life of the object.");
        AmbEvaluator x = new AmbEvaluator(2, 3);
        for (int round = 0; round < 3; round++) {
            Limits.due("round " + round, x, 2, 3);
            x.reset();
            Checks.feed(x, "VAR:1");
            Checks.due("compile", x.compile(), AmbEvaluator.ERR_UNBOUND);
            x.reset();
            Checks.feed(x, "LET:0 AMB NUM:1 AMB NUM:2 AMB NUM:3 NUM:4 LET:1 LAM:2 VAR:2 LET:3 VAR:0 VAR:3");
            Checks.due("compile", x.compile(), AmbEvaluator.OK);
            for (int search = 0; search < 3; search++) {
                Checks.due("over the allocations, search " + search, Checks.search(x), "end!3");
                x.restart();
            }
            x.reset();
            Checks.feed(x, "LET:0 AMB NUM:1 AMB NUM:2 AMB NUM:3 NUM:4 LET:1 LAM:2 VAR:2 VAR:0");
            Checks.due("compile", x.compile(), AmbEvaluator.OK);
            for (int search = 0; search < 3; search++) {
                Checks.due("within them, search " + search, Checks.search(x), "0>1@3!0 10>2@3!0 end!1");
                x.restart();
            }
        }
    }

    private static AmbEvaluator[] newObjects() {
        return new AmbEvaluator[] {new AmbEvaluator(1, 1), new AmbEvaluator(6, 16), new AmbEvaluator(3, 5),
            new AmbEvaluator(Checks.LEAST, Checks.LEAST), new AmbEvaluator(Checks.MOST, Checks.MOST)};
    }

    private static void startInEdit() {
        Checks.sentence("Promise 1", "the phase is EDIT and no tokens are held (tokenCount() is 0)");
        for (AmbEvaluator x : newObjects()) {
            Checks.due("phase", x.phase(), AmbEvaluator.EDIT);
            Checks.due("tokenCount", x.tokenCount(), 0);
            Checks.due("tokenKind(0)", x.tokenKind(0), -1);
            Checks.due("compile", x.compile(), AmbEvaluator.ERR_EMPTY);
            Checks.due("next", x.next(), AmbEvaluator.REFUSED);
            Checks.due("restart", x.restart(), false);
            Checks.due("token", x.token(AmbEvaluator.NUM, 1), true);
        }
    }

    private static void startWithCountsOfZero() {
        Checks.sentence("Promise 1", "solutionCount and failureCount are 0");
        for (AmbEvaluator x : newObjects()) {
            Checks.due("solutionCount", x.solutionCount(), 0);
            Checks.due("failureCount", x.failureCount(), 0);
        }
    }

    private static void startCleared() {
        Checks.sentence("Promise 1", "the last solution is cleared");
        for (AmbEvaluator x : newObjects()) {
            Checks.dueCleared("new", x);
        }
    }

    private static void resetInEveryPhase() {
        Checks.sentence("Promise 2", "reset() always works, in every phase.");
        for (Points.Point point : Points.all()) {
            AmbEvaluator x = point.reach();
            AmbEvaluator fresh = new AmbEvaluator(6, 16);
            for (int times = 1; times <= 2; times++) {
                x.reset();
                Checks.due(times + " times at the point: " + point.name, Checks.state(x), Checks.state(fresh));
            }
            Checks.feed(x, Programs.MIXED);
            Checks.due("compile after a reset at the point: " + point.name, x.compile(), AmbEvaluator.OK);
            Checks.due("after a reset at the point: " + point.name, Checks.search(x), Programs.MIXED_OUTCOMES);
        }
    }

    private static void resetRemovesAllTokens() {
        Checks.sentence("Promise 2", "It removes all tokens");
        for (int held = 0; held <= 32; held++) {
            AmbEvaluator x = Checks.fed(6, 16, "NUM:7 ".repeat(held));
            x.reset();
            Checks.due("tokenCount after a reset of " + held, x.tokenCount(), 0);
            for (int i = -1; i <= 32; i++) {
                Checks.due("tokenKind(" + i + ") after a reset of " + held, x.tokenKind(i), -1);
                Checks.due("tokenArg(" + i + ") after a reset of " + held, x.tokenArg(i), 0);
            }
            Checks.due("compile after a reset of " + held, x.compile(), AmbEvaluator.ERR_EMPTY);
            Checks.feed(x, "FAIL ".repeat(32));
            Checks.due("full again after a reset of " + held, x.token(AmbEvaluator.FAIL, 0), false);
        }
    }

    private static void resetToEdit() {
        Checks.sentence("Promise 2", "and sets the phase to EDIT.");
        for (Points.Point point : Points.all()) {
            AmbEvaluator x = point.reach();
            x.reset();
            Checks.due("phase, from the point: " + point.name, x.phase(), AmbEvaluator.EDIT);
            Checks.due("next, from the point: " + point.name, x.next(), AmbEvaluator.REFUSED);
            Checks.due("restart, from the point: " + point.name, x.restart(), false);
        }
    }

    private static AmbEvaluator[] withCounts() {
        return new AmbEvaluator[] {Checks.searched(Programs.MIXED, 1), Checks.searched(Programs.MIXED, 2),
            Checks.searched(Programs.MIXED, 3), Checks.searched("AMB FAIL FAIL", 1), Checks.searched("NUM:3", 1)};
    }

    private static void resetCounts() {
        Checks.sentence("Promise 2", "It sets solutionCount and failureCount to 0");
        for (AmbEvaluator x : withCounts()) {
            Checks.due("a count before the reset", x.solutionCount() + x.failureCount() > 0, true);
            x.reset();
            Checks.due("solutionCount", x.solutionCount(), 0);
            Checks.due("failureCount", x.failureCount(), 0);
        }
    }

    private static void resetClears() {
        Checks.sentence("Promise 2", "and clears the last solution.");
        for (AmbEvaluator x : withCounts()) {
            x.reset();
            Checks.dueCleared("after the reset", x);
        }
    }

    private static void resetKeepsLimits() {
        Checks.sentence("Promise 2", "The clamped limits are kept.");
        int[][] limits = {{1, 1}, {2, 3}, {5, 15}, {6, 16}};
        for (int[] limit : limits) {
            AmbEvaluator x = new AmbEvaluator(limit[0], limit[1]);
            x.reset();
            Limits.due("after a reset when new", x, limit[0], limit[1]);
            x.reset();
            Limits.due("after a reset in DONE", x, limit[0], limit[1]);
        }
    }
}
