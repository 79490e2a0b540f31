import java.util.ArrayList;
import java.util.List;
import java.util.function.Consumer;
import java.util.function.Supplier;

/** The points in an object's life at which a call can come, so that a test can try its call at each. */
final class Points {
    /** A point, with the way to bring a new object there. */
    static final class Point {
        final String name;
        final int phase;
        private final Supplier<AmbEvaluator> way;

        Point(String name, int phase, Supplier<AmbEvaluator> way) {
            this.name = name;
            this.phase = phase;
            this.way = way;
        }

        AmbEvaluator reach() {
            AmbEvaluator x = way.get();
            Checks.due("the phase of: " + name, x.phase(), phase);
            return x;
        }
    }

    private static final List<Point> ALL = new ArrayList<>();

    static {
        edit("new", "");
        edit("an open expression", "ADD NUM:4");
        edit("a program that is not compiled yet", Programs.MIXED);
        edit("full", "NUM:9 ".repeat(32));
        error("after ERR_EMPTY", "", AmbEvaluator.ERR_EMPTY);
        error("after ERR_EXTRA", "NUM:1 NUM:2", AmbEvaluator.ERR_EXTRA);
        error("after ERR_INCOMPLETE", "ADD NUM:1", AmbEvaluator.ERR_INCOMPLETE);
        error("after ERR_UNBOUND", "LET:0 NUM:1 VAR:1", AmbEvaluator.ERR_UNBOUND);
        for (int nexts = 0; nexts <= 4; nexts++) {
            search(Programs.MIXED, nexts, nexts <= 2 ? AmbEvaluator.READY : AmbEvaluator.DONE);
            again(nexts);
            cleared(nexts);
        }
        search("NUM:1", 1, AmbEvaluator.READY);
        search("NUM:1", 2, AmbEvaluator.DONE);
        search("AMB FAIL FAIL", 0, AmbEvaluator.READY);
        search("AMB FAIL FAIL", 1, AmbEvaluator.DONE);
    }

    private Points() {
    }

    private static void add(String name, int phase, Supplier<AmbEvaluator> way) {
        ALL.add(new Point(name, phase, way));
    }

    private static void edit(String name, String text) {
        add(name, AmbEvaluator.EDIT, () -> Checks.fed(6, 16, text));
    }

    private static void error(String name, String text, int answer) {
        add(name, AmbEvaluator.EDIT, () -> {
            AmbEvaluator x = Checks.fed(6, 16, text);
            Checks.due("compile of " + text, x.compile(), answer);
            return x;
        });
    }

    private static void search(String text, int nexts, int phase) {
        add(nexts + " calls of next on " + text, phase, () -> Checks.searched(text, nexts));
    }

    private static void again(int nexts) {
        add("a restart after " + nexts + " calls of next", AmbEvaluator.READY, () -> {
            AmbEvaluator x = Checks.searched(Programs.MIXED, nexts);
            x.restart();
            return x;
        });
    }

    private static void cleared(int nexts) {
        add("a reset after " + nexts + " calls of next", AmbEvaluator.EDIT, () -> {
            AmbEvaluator x = Checks.searched(Programs.MIXED, nexts);
            x.reset();
            return x;
        });
    }

    static List<Point> all() {
        return ALL;
    }

    static List<Point> in(int... phases) {
        List<Point> found = new ArrayList<>();
        for (Point point : ALL) {
            for (int phase : phases) {
                if (point.phase == phase) {
                    found.add(point);
                }
            }
        }
        return found;
    }

    /** The call leaves no trace: neither in what can be asked now nor in anything that comes after it. */
    static void dueNoChange(String what, Point point, Consumer<AmbEvaluator> call) {
        AmbEvaluator x = point.reach();
        AmbEvaluator twin = point.reach();
        call.accept(x);
        String name = what + " at the point: " + point.name;
        Checks.due(name + ", state", Checks.state(x), Checks.state(twin));
        Checks.due(name + ", what follows", future(x), future(twin));
    }

    private static String future(AmbEvaluator x) {
        StringBuilder text = new StringBuilder();
        for (int call = 0; call < 4; call++) {
            text.append(x.next()).append(Checks.state(x)).append('\n');
        }
        text.append(x.restart()).append(Checks.state(x)).append('\n');
        text.append(x.token(AmbEvaluator.NUM, 3)).append(Checks.state(x)).append('\n');
        text.append(x.compile()).append(Checks.state(x)).append('\n');
        for (int call = 0; call < 4; call++) {
            text.append(x.next()).append(Checks.state(x)).append('\n');
        }
        return text.toString();
    }
}
