import java.util.function.IntFunction;
import java.util.function.IntPredicate;
import java.util.function.IntUnaryOperator;

/**
 * Every number of a wide stretch in the place of each argument of each call, on an object in phase
 * CONFIG and on a running one: what is outside of its range is refused and changes nothing.
 */
public final class WrongArgumentsTest {
    private static final int FIRST = -1100;
    private static final int LAST = 1100;
    private static final int PHASE = -1;
    private static final int ARG = -2;

    private static final ContinuousQuery CONFIG = Edge.everyClauseSet(5);
    private static final ContinuousQuery RUNNING = Edge.fullRows();
    private static final ContinuousQuery RANGES = Edge.fullRanges();

    public static void main(String[] args) {
        Edge.holds("ERR_ARG = -2 (an argument is out of its range)", () -> {
            windows();
            filters();
            otherClauses();
            tuples();
        });
        Edge.holds("ERR_PHASE = -1 (call not allowed in the current phase)", WrongArgumentsTest::wrongPhase);
        Edge.holds("Any other code (below 0 or above 21) answers -1.", WrongArgumentsTest::codes);
        Edge.holds("It answers -1 in three cases", WrongArgumentsTest::rows);
        Edge.holds("It answers -1 if stream is not 0 or 1", WrongArgumentsTest::stores);
        Due.end();
    }

    /** Each number that is not right in this place of the call gets this answer and changes nothing. */
    private static void sweep(ContinuousQuery x, int answer, IntFunction<String> call, IntPredicate isRight,
            IntUnaryOperator made) {
        for (int n = FIRST; n <= LAST; n++) {
            if (!isRight.test(n)) {
                int number = n;
                Due.refused(call.apply(n), x, answer, () -> made.applyAsInt(number));
            }
        }
    }

    private static IntPredicate from(int low, int high) {
        return n -> n >= low && n <= high;
    }

    private static IntFunction<String> named(String before, String after) {
        return n -> before + n + after;
    }

    private static void windows() {
        for (int kind = 1; kind <= 2; kind++) {
            int k = kind;
            sweep(CONFIG, ARG, named("setWindow(", ", " + k + ", 1)"), from(0, 1), n -> CONFIG.setWindow(n, k, 1));
        }
        for (int stream = 0; stream <= 1; stream++) {
            int s = stream;
            String before = "setWindow(" + s + ", ";
            sweep(CONFIG, ARG, named(before, ", 1)"), from(1, 2), n -> CONFIG.setWindow(s, n, 1));
            sweep(CONFIG, ARG, named(before + "1, ", ")"), from(1, 64), n -> CONFIG.setWindow(s, 1, n));
            for (int cap = 2; cap <= 12; cap++) {
                ContinuousQuery x = new ContinuousQuery(cap);
                sweep(x, ARG, named("cap " + cap + ": " + before + "2, ", ")"), from(1, cap),
                    n -> x.setWindow(s, 2, n));
            }
        }
    }

    private static void filters() {
        for (int op = 0; op <= 4; op++) {
            int o = op;
            sweep(CONFIG, ARG, named("setFilter(", ", 1, " + o + ", 2)"), from(0, 1),
                n -> CONFIG.setFilter(n, 1, o, 2));
        }
        for (int stream = 0; stream <= 1; stream++) {
            int s = stream;
            String before = "setFilter(" + s + ", ";
            sweep(CONFIG, ARG, named(before + "1, ", ", 2)"), from(0, 4), n -> CONFIG.setFilter(s, 1, n, 2));
            for (int op = 1; op <= 4; op++) {
                int o = op;
                sweep(CONFIG, ARG, named(before, ", " + o + ", 2)"), from(0, 1),
                    n -> CONFIG.setFilter(s, n, o, 2));
            }
        }
    }

    private static void otherClauses() {
        sweep(CONFIG, ARG, named("setJoin(", ")"), from(0, 1), n -> CONFIG.setJoin(n));
        sweep(CONFIG, ARG, named("setProject(", ")"), from(1, 7), n -> CONFIG.setProject(n));
        sweep(CONFIG, ARG, named("setOutput(", ")"), from(1, 3), n -> CONFIG.setOutput(n));
        sweep(CONFIG, ARG, named("setAggregate(2, ", ")"), from(1, 2), n -> CONFIG.setAggregate(2, n));
        for (int column = 0; column <= 2; column++) {
            int c = column;
            sweep(CONFIG, ARG, named("setAggregate(", ", " + c + ")"), from(0, 2), n -> CONFIG.setAggregate(n, c));
        }
    }

    private static void tuples() {
        for (ContinuousQuery x : new ContinuousQuery[] {RUNNING, RANGES}) {
            sweep(x, ARG, named("arrive(", ", 1, 1)"), from(0, 1), n -> x.arrive(n, 1, 1));
            for (int stream = 0; stream <= 1; stream++) {
                int s = stream;
                sweep(x, ARG, named("arrive(" + s + ", ", ", 1)"), from(0, 15), n -> x.arrive(s, n, 1));
                sweep(x, ARG, named("arrive(" + s + ", 1, ", ")"), from(0, 255), n -> x.arrive(s, 1, n));
            }
        }
    }

    private static void wrongPhase() {
        IntPredicate none = n -> false;
        ContinuousQuery x = RUNNING;
        sweep(x, PHASE, named("setWindow(", ", 1, 1)"), none, n -> x.setWindow(n, 1, 1));
        sweep(x, PHASE, named("setWindow(0, ", ", 1)"), none, n -> x.setWindow(0, n, 1));
        sweep(x, PHASE, named("setWindow(0, 1, ", ")"), none, n -> x.setWindow(0, 1, n));
        sweep(x, PHASE, named("setFilter(", ", 1, 1, 1)"), none, n -> x.setFilter(n, 1, 1, 1));
        sweep(x, PHASE, named("setFilter(0, ", ", 1, 1)"), none, n -> x.setFilter(0, n, 1, 1));
        sweep(x, PHASE, named("setFilter(0, 1, ", ", 1)"), none, n -> x.setFilter(0, 1, n, 1));
        sweep(x, PHASE, named("setFilter(0, 1, 1, ", ")"), none, n -> x.setFilter(0, 1, 1, n));
        sweep(x, PHASE, named("setJoin(", ")"), none, n -> x.setJoin(n));
        sweep(x, PHASE, named("setProject(", ")"), none, n -> x.setProject(n));
        sweep(x, PHASE, named("setAggregate(", ", 1)"), none, n -> x.setAggregate(n, 1));
        sweep(x, PHASE, named("setAggregate(2, ", ")"), none, n -> x.setAggregate(2, n));
        sweep(x, PHASE, named("setOutput(", ")"), none, n -> x.setOutput(n));
        sweep(CONFIG, PHASE, named("arrive(", ", 1, 1)"), none, n -> CONFIG.arrive(n, 1, 1));
        sweep(CONFIG, PHASE, named("arrive(0, ", ", 1)"), none, n -> CONFIG.arrive(0, n, 1));
        sweep(CONFIG, PHASE, named("arrive(1, 1, ", ")"), none, n -> CONFIG.arrive(1, 1, n));
    }

    private static void codes() {
        for (ContinuousQuery x : new ContinuousQuery[] {CONFIG, RUNNING, RANGES}) {
            sweep(x, -1, named("info(", ")"), from(0, 21), n -> x.info(n));
        }
    }

    private static void rows() {
        for (ContinuousQuery x : new ContinuousQuery[] {CONFIG, RUNNING, RANGES}) {
            sweep(x, -1, named("row(", ", 0, 0)"), from(0, 1), n -> x.row(n, 0, 0));
            for (int which = 0; which <= 1; which++) {
                int w = which;
                int last = x.info(2 + which) - 1;
                for (int col = 0; col <= 2; col++) {
                    int c = col;
                    sweep(x, -1, named("row(" + w + ", ", ", " + c + ")"), from(0, last), n -> x.row(w, n, c));
                }
                sweep(x, -1, named("row(" + w + ", 0, ", ")"), from(0, 2), n -> x.row(w, 0, n));
            }
        }
    }

    private static void stores() {
        for (ContinuousQuery x : new ContinuousQuery[] {CONFIG, RUNNING, RANGES}) {
            sweep(x, -1, named("stored(", ", 0)"), from(0, 1), n -> x.stored(n, 0));
            for (int stream = 0; stream <= 1; stream++) {
                int s = stream;
                int last = x.info(4 + stream) - 1;
                sweep(x, -1, named("stored(" + s + ", ", ")"), from(0, last), n -> x.stored(s, n));
            }
        }
    }
}
