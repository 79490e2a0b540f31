/** Programs that several tests run. */
final class Programs {
    /** Two solutions, a failing path before them and one after them. */
    static final String MIXED = "AMB AMB FAIL LAM:1 VAR:1 AMB LET:0 NUM:5 VAR:0 FAIL";
    static final String MIXED_OUTCOMES = "01>L3@1!1 10>5@1!1 end!2";

    /** Six choices, and a value that is the number which their bits make: 64 paths, all of them solutions. */
    static final String NUMBERS = "LET:0 LAM:1 ADD MUL VAR:1 NUM:2 AMB NUM:0 NUM:1 "
        + "LET:2 LAM:1 APP VAR:0 APP VAR:0 APP VAR:0 VAR:1 APP VAR:2 APP VAR:2 NUM:0";
    static final int NUMBERS_ALLOCS = 12;

    /** A program of 32 tokens. */
    static final String FULL = "LET:0 NUM:1 ".repeat(15) + "SET:0 NUM:6";

    private Programs() {
    }

    /** n times AMB in the second operand of the one before: solution i takes i ones and a zero. */
    static String chainOfChoices(int n) {
        StringBuilder text = new StringBuilder();
        for (int i = 0; i < n; i++) {
            text.append("AMB NUM:").append(i).append(' ');
        }
        return text.append("NUM:").append(n).toString();
    }

    /** A program whose only path makes n allocations, 20 at most. */
    static String chainOfAllocations(int n) {
        String text = "LET:0 LAM:1 VAR:1 ".repeat(n / 2);
        return text + (n % 2 == 1 ? "LAM:2 NUM:4" : "NUM:3");
    }
}
