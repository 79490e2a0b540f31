/** Finds out by whole searches which limits an object has. */
final class Limits {
    private Limits() {
    }

    static void due(String what, AmbEvaluator x, int choices, int allocs) {
        Checks.due(what + ", the limit on choices", choicesOf(x), choices);
        Checks.due(what + ", the limit on allocations", allocsOf(x), allocs);
    }

    /** The most choices of a path that succeeds, of 1 to 9. */
    private static int choicesOf(AmbEvaluator x) {
        x.reset();
        Checks.feed(x, Programs.chainOfChoices(9));
        x.compile();
        int most = 0;
        for (int call = 0; call < 12 && x.next() == AmbEvaluator.SOLUTION; call++) {
            most = Math.max(most, x.choiceCount());
        }
        return most;
    }

    /** The most allocations of a path that succeeds, of 1 to 20. */
    private static int allocsOf(AmbEvaluator x) {
        int most = 0;
        for (int n = 1; n <= 20; n++) {
            x.reset();
            Checks.feed(x, Programs.chainOfAllocations(n));
            x.compile();
            if (x.next() == AmbEvaluator.SOLUTION) {
                most = Math.max(most, x.allocCount());
            }
        }
        return most;
    }
}
