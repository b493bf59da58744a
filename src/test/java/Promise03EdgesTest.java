import java.util.ArrayList;
import java.util.List;

/** Promise 3, setWindow: each sentence that names a boundary case. */
public final class Promise03EdgesTest {
    public static void main(String[] args) {
        Edge.holds("Phase not CONFIG -> ERR_PHASE.", Promise03EdgesTest::runningIsRefused);
        Edge.holds("stream not 0 or 1 -> ERR_ARG.", Promise03EdgesTest::wrongStreamIsRefused);
        Edge.holds("kind not WIN_RANGE or WIN_ROWS -> ERR_ARG.", Promise03EdgesTest::wrongKindIsRefused);
        Edge.holds("kind RANGE with size outside 1..64", Promise03EdgesTest::wrongRangeIsRefused);
        Edge.holds("kind ROWS with size outside 1..cap -> ERR_ARG.", Promise03EdgesTest::wrongRowsIsRefused);
        Edge.holds("Otherwise it sets the window of that stream to (kind, size) and answers OK.",
            Promise03EdgesTest::everySizeInsideIsSet);
        Edge.holds("Nothing else changes: the other stream's window, every other clause, the phase, now, the"
            + " stores and the row lists are unchanged.", Promise03EdgesTest::nothingElseChanges);
        Edge.holds("**RANGE r** at instant t holds tuples with t - r < ts <= t.",
            Promise03EdgesTest::rangeHoldsItsInstants);
        Edge.holds("With r = 1 it holds only tuples of instant t.", Promise03EdgesTest::range1HoldsOneInstant);
        Edge.holds("**ROWS n** holds the last n tuples arrived at instants <= t.",
            Promise03EdgesTest::rowsHoldsTheLast);
        Due.end();
    }

    private static void runningIsRefused() {
        for (int stream = -1; stream <= 2; stream++) {
            for (int kind = 0; kind <= 3; kind++) {
                for (int size : new int[] {0, 1, 2, 64, 65}) {
                    int s = stream;
                    int k = kind;
                    Edge.refused(call(s, k, size), Edge.PHASE, Edge.running(), x -> x.setWindow(s, k, size));
                }
            }
        }
    }

    private static String call(int stream, int kind, int size) {
        return "setWindow(" + stream + ", " + kind + ", " + size + ")";
    }

    private static void wrongArguments(int stream, int kind, int size) {
        Edge.refused(call(stream, kind, size), Edge.ARG, Edge.config(), x -> x.setWindow(stream, kind, size));
    }

    private static void wrongStreamIsRefused() {
        for (int stream : Edge.outside(0, 1)) {
            wrongArguments(stream, Edge.RANGE, 3);
            wrongArguments(stream, Edge.ROWS, 2);
        }
    }

    private static void wrongKindIsRefused() {
        for (int kind : Edge.outside(1, 2)) {
            wrongArguments(0, kind, 1);
            wrongArguments(1, kind, 1);
        }
    }

    private static void wrongRangeIsRefused() {
        for (int size : Edge.outside(1, 64)) {
            wrongArguments(0, Edge.RANGE, size);
            wrongArguments(1, Edge.RANGE, size);
        }
    }

    private static void wrongRowsIsRefused() {
        for (int cap = 2; cap <= 12; cap++) {
            int c = cap;
            for (int size : Edge.outside(1, cap)) {
                for (int stream = 0; stream <= 1; stream++) {
                    int s = stream;
                    Edge.refusedBy(call(s, Edge.ROWS, size) + " of cap " + c, Edge.ARG,
                        () -> new ContinuousQuery(c), x -> x.setWindow(s, Edge.ROWS, size));
                }
            }
        }
    }

    private static void everySizeInsideIsSet() {
        for (int cap = 2; cap <= 12; cap++) {
            ContinuousQuery x = new ContinuousQuery(cap);
            for (int stream = 0; stream <= 1; stream++) {
                for (int size = 1; size <= 64; size++) {
                    isSet(x, stream, Edge.RANGE, size);
                }
                for (int size = 1; size <= cap; size++) {
                    isSet(x, stream, Edge.ROWS, size);
                }
            }
        }
    }

    private static void isSet(ContinuousQuery x, int stream, int kind, int size) {
        Due.due(call(stream, kind, size), x.setWindow(stream, kind, size), 0);
        Due.due("its kind", x.info(6 + 2 * stream), kind);
        Due.due("its size", x.info(7 + 2 * stream), size);
    }

    private static void nothingElseChanges() {
        Edge.config().forEach((state, maker) -> {
            ContinuousQuery x = maker.get();
            for (int stream = 0; stream <= 1; stream++) {
                changesOneWindow(x, stream, Edge.RANGE, 64);
                changesOneWindow(x, stream, Edge.ROWS, x.info(21));
                changesOneWindow(x, stream, Edge.RANGE, 1);
                changesOneWindow(x, stream, Edge.ROWS, 1);
            }
        });
    }

    private static void changesOneWindow(ContinuousQuery x, int stream, int kind, int size) {
        int[] before = Due.infos(x);
        x.setWindow(stream, kind, size);
        Edge.changedOnly(call(stream, kind, size), x, before, 6 + 2 * stream, kind, 7 + 2 * stream, size);
    }

    /** A join whose rows show what the given stream holds; the other one holds one tuple for good. */
    private static ContinuousQuery showing(int cap, int stream, int kind, int size) {
        ContinuousQuery x = new ContinuousQuery(cap);
        x.setWindow(stream, kind, size);
        x.setJoin(1);
        x.setOutput(3);
        x.compile();
        x.arrive(1 - stream, 1, 0);
        return x;
    }

    private static void showsValues(String when, ContinuousQuery x, int stream, List<Integer> values) {
        List<List<Integer>> want = new ArrayList<>();
        for (int value : values) {
            want.add(stream == 0 ? List.of(1, value, 0) : List.of(1, 0, value));
        }
        Due.due(when + ": step()", x.step(), want.size());
        Due.same(when + ": what the window held", Due.rows(x, 1), want);
    }

    // One tuple in each of three instants, the value telling the instant.
    private static void rangeHoldsItsInstants() {
        for (int stream = 0; stream <= 1; stream++) {
            for (int r = 1; r <= 64; r++) {
                ContinuousQuery x = showing(12, stream, Edge.RANGE, r);
                for (int t = 0; t <= r + 8; t++) {
                    if (t >= 3 && t <= 5) {
                        Due.due("arrive at " + t, x.arrive(stream, 1, t), 0);
                    }
                    List<Integer> inside = new ArrayList<>();
                    for (int ts = 3; ts <= 5; ts++) {
                        if (t - r < ts && ts <= t) {
                            inside.add(ts);
                        }
                    }
                    showsValues("S" + stream + " RANGE " + r + " at " + t, x, stream, inside);
                }
            }
        }
    }

    private static void range1HoldsOneInstant() {
        for (int stream = 0; stream <= 1; stream++) {
            ContinuousQuery x = showing(4, stream, Edge.RANGE, 1);
            for (int t = 0; t < 20; t++) {
                List<Integer> values = new ArrayList<>();
                for (int i = 0; i < t % 5; i++) {
                    Due.due("arrive at " + t, x.arrive(stream, 1, t + i), 0);
                    values.add(t + i);
                }
                showsValues("S" + stream + " RANGE 1 at " + t, x, stream, values);
                Due.due("held after the step at " + t, x.info(4 + stream), 0);
            }
        }
    }

    // None, one or two tuples an instant, so that the last n span several instants.
    private static void rowsHoldsTheLast() {
        for (int stream = 0; stream <= 1; stream++) {
            for (int n = 1; n <= 12; n++) {
                ContinuousQuery x = showing(12, stream, Edge.ROWS, n);
                List<Integer> last = new ArrayList<>();
                int value = 0;
                for (int t = 0; t < 90; t++) {
                    for (int i = 0; i < t % 3; i++) {
                        value++;
                        Due.due("arrive at " + t, x.arrive(stream, 1, value), 0);
                        last.add(value);
                    }
                    List<Integer> held = last.subList(Math.max(0, last.size() - n), last.size());
                    showsValues("S" + stream + " ROWS " + n + " at " + t, x, stream, held);
                }
            }
        }
    }
}
