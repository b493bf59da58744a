import java.util.ArrayList;
import java.util.LinkedHashMap;
import java.util.List;
import java.util.Map;
import java.util.function.Supplier;

/** Promise 10, arrive: each sentence that names a boundary case. */
public final class Promise10EdgesTest {
    public static void main(String[] args) {
        Edge.holds("Phase not RUNNING -> ERR_PHASE.", Promise10EdgesTest::configIsRefused);
        Edge.holds("stream not 0 or 1 -> ERR_ARG.", Promise10EdgesTest::wrongStreamIsRefused);
        Edge.holds("stream 1 while join is 0 -> ERR_UNUSED.", Promise10EdgesTest::unusedStreamIsRefused);
        Edge.holds("key outside 0..15", Promise10EdgesTest::wrongKeyIsRefused);
        Edge.holds("value outside 0..255 -> ERR_ARG.", Promise10EdgesTest::wrongValueIsRefused);
        Edge.holds("Window of that stream is RANGE and its store holds cap tuples -> ERR_FULL.",
            Promise10EdgesTest::fullRangeStoreIsRefused);
        Edge.holds("`arrive(stream, key, value)` tests, in this order:", Promise10EdgesTest::testsStandInOrder);
        Edge.holds("Otherwise, if the window of that stream is ROWS n and its store holds n tuples, the oldest"
            + " held tuple is removed first.", Promise10EdgesTest::fullRowsStoreDropsItsOldest);
        Edge.holds("Then (now, key, value) is appended as the newest tuple of that store, and the call answers"
            + " OK.", Promise10EdgesTest::theTupleIsAppended);
        Edge.holds("Several tuples may arrive at one instant, and all take part in that instant.",
            Promise10EdgesTest::manyTuplesOfOneInstant);
        Edge.holds("The other store, now, the phase, the clauses, the output list and the relation are"
            + " unchanged.", Promise10EdgesTest::theRestIsUnchanged);
        Due.end();
    }

    private static String call(int stream, int key, int value) {
        return "arrive(" + stream + ", " + key + ", " + value + ")";
    }

    private static void refused(int code, Map<String, Supplier<ContinuousQuery>> states,
            int stream, int key, int value) {
        Edge.refused(call(stream, key, value), code, states, x -> x.arrive(stream, key, value));
    }

    private static void configIsRefused() {
        for (int stream = -1; stream <= 2; stream++) {
            for (int key : new int[] {-1, 0, 15, 16}) {
                for (int value : new int[] {-1, 0, 255, 256}) {
                    refused(Edge.PHASE, Edge.config(), stream, key, value);
                }
            }
        }
    }

    private static void wrongStreamIsRefused() {
        for (int stream : Edge.outside(0, 1)) {
            refused(Edge.ARG, Edge.running(), stream, 1, 1);
            refused(Edge.ARG, Edge.running(), stream, 15, 255);
        }
    }

    private static void unusedStreamIsRefused() {
        for (int key = 0; key <= 15; key++) {
            refused(Edge.UNUSED, unjoined(), 1, key, 0);
            refused(Edge.UNUSED, unjoined(), 1, key, 255);
        }
    }

    /** Running objects with join off, whose S1 has a RANGE or a ROWS window. */
    private static Map<String, Supplier<ContinuousQuery>> unjoined() {
        Map<String, Supplier<ContinuousQuery>> states = new LinkedHashMap<>(Edge.running());
        Edge.joined().keySet().forEach(states::remove);
        return states;
    }

    /** A running join with room in both stores, of both window kinds. */
    private static Map<String, Supplier<ContinuousQuery>> withRoom() {
        Map<String, Supplier<ContinuousQuery>> states = new LinkedHashMap<>();
        states.put("RANGE and ROWS with room", () -> withRoom(Edge.RANGE, Edge.ROWS));
        states.put("ROWS and RANGE with room", () -> withRoom(Edge.ROWS, Edge.RANGE));
        states.putAll(Edge.joined());
        return states;
    }

    private static ContinuousQuery withRoom(int kind0, int kind1) {
        ContinuousQuery x = new ContinuousQuery(5);
        x.setJoin(1);
        x.setWindow(0, kind0, 3);
        x.setWindow(1, kind1, 3);
        x.compile();
        Edge.arrivals(x, 0, 1);
        Edge.arrivals(x, 1, 1);
        x.step();
        return x;
    }

    private static void wrongKeyIsRefused() {
        for (int key : Edge.outside(0, 15)) {
            for (int stream = 0; stream <= 1; stream++) {
                refused(Edge.ARG, withRoom(), stream, key, 0);
                refused(Edge.ARG, withRoom(), stream, key, 255);
            }
        }
    }

    private static void wrongValueIsRefused() {
        for (int value : Edge.outside(0, 255)) {
            for (int stream = 0; stream <= 1; stream++) {
                refused(Edge.ARG, withRoom(), stream, 0, value);
                refused(Edge.ARG, withRoom(), stream, 15, value);
            }
        }
    }

    private static void fullRangeStoreIsRefused() {
        for (int cap = 2; cap <= 12; cap++) {
            for (int stream = 0; stream <= 1; stream++) {
                for (int r : new int[] {1, 2, 13, 64}) {
                    int c = cap;
                    int s = stream;
                    Edge.refusedBy("tuple " + (cap + 1) + " of RANGE " + r, Edge.FULL,
                        () -> fullAtOnce(c, s, r), x -> x.arrive(s, 2, 3));
                }
                roomComesBackTupleByTuple(cap, stream);
            }
        }
    }

    private static ContinuousQuery rangeOf(int cap, int stream, int r) {
        ContinuousQuery x = new ContinuousQuery(cap);
        x.setJoin(1);
        x.setWindow(stream, Edge.RANGE, r);
        x.compile();
        return x;
    }

    private static ContinuousQuery fullAtOnce(int cap, int stream, int r) {
        ContinuousQuery x = rangeOf(cap, stream, r);
        Edge.arrivals(x, stream, cap);
        return x;
    }

    // One tuple an instant fills the store, then one leaves with each step.
    private static void roomComesBackTupleByTuple(int cap, int stream) {
        ContinuousQuery x = rangeOf(cap, stream, cap + 1);
        for (int t = 0; t < cap; t++) {
            Due.due("the tuple of instant " + t, x.arrive(stream, 1, t), 0);
            x.step();
        }
        for (int t = cap; t <= 2 * cap; t++) {
            Due.due("held at " + t, x.info(4 + stream), t == cap ? cap : cap - 1);
            if (t > cap) {
                Due.due("the one free place at " + t, x.arrive(stream, 1, t), 0);
            }
            Due.due("a tuple more at " + t, x.arrive(stream, 1, 200), Edge.FULL);
            Due.due("held at " + t, x.info(4 + stream), cap);
            x.step();
        }
    }

    private static void testsStandInOrder() {
        refused(Edge.PHASE, Edge.config(), 2, 16, 256);
        refused(Edge.PHASE, Edge.config(), 1, 16, 256);
        refused(Edge.ARG, unjoined(), 2, 0, 0);
        refused(Edge.UNUSED, unjoined(), 1, 16, 0);
        refused(Edge.UNUSED, unjoined(), 1, -1, 0);
        refused(Edge.UNUSED, unjoined(), 1, 0, 256);
        refused(Edge.UNUSED, unjoined(), 1, 0, -1);
        for (int stream = 0; stream <= 1; stream++) {
            int s = stream;
            for (int[] wrong : new int[][] {{16, 0}, {-1, 0}, {0, 256}, {0, -1}}) {
                Edge.refusedBy(call(s, wrong[0], wrong[1]) + " on a full store", Edge.ARG, Edge::fullRanges,
                    x -> x.arrive(s, wrong[0], wrong[1]));
            }
            Edge.refusedBy(call(s, 0, 0) + " on a full store", Edge.FULL, Edge::fullRanges,
                x -> x.arrive(s, 0, 0));
        }
    }

    private static void fullRowsStoreDropsItsOldest() {
        for (int cap = 2; cap <= 12; cap++) {
            for (int n = 1; n <= cap; n++) {
                for (int stream = 0; stream <= 1; stream++) {
                    ContinuousQuery x = new ContinuousQuery(cap);
                    x.setJoin(1);
                    x.setWindow(stream, Edge.ROWS, n);
                    x.compile();
                    dropsItsOldest(x, stream, n);
                }
            }
        }
    }

    private static void dropsItsOldest(ContinuousQuery x, int stream, int n) {
        List<Integer> held = new ArrayList<>();
        for (int i = 0; i < 3 * n + 2; i++) {
            Due.due("tuple " + i + " of ROWS " + n, x.arrive(stream, i % 16, 255 - i), 0);
            if (held.size() == n) {
                held.remove(0);
            }
            held.add(x.info(0) * 4096 + i % 16 * 256 + 255 - i);
            Due.same("ROWS " + n + " after tuple " + i, Due.store(x, stream), held);
            if (i % 2 == 1) {
                x.step();
            }
        }
    }

    private static void theTupleIsAppended() {
        for (int kind : new int[] {Edge.RANGE, Edge.ROWS}) {
            for (int stream = 0; stream <= 1; stream++) {
                ContinuousQuery x = new ContinuousQuery(12);
                x.setJoin(1);
                x.setWindow(stream, kind, 12);
                x.compile();
                List<Integer> held = new ArrayList<>();
                for (int[] tuple : new int[][] {{0, 0}, {15, 255}, {0, 255}, {15, 0}, {7, 128}, {7, 127}}) {
                    Due.due(call(stream, tuple[0], tuple[1]), x.arrive(stream, tuple[0], tuple[1]), 0);
                    held.add(held.size() * 4096 + tuple[0] * 256 + tuple[1]);
                    Due.same("the store after it", Due.store(x, stream), held);
                    x.step();
                }
            }
        }
    }

    private static void manyTuplesOfOneInstant() {
        for (int cap = 2; cap <= 12; cap++) {
            for (int kind : new int[] {Edge.RANGE, Edge.ROWS}) {
                ContinuousQuery x = new ContinuousQuery(cap);
                x.setWindow(0, kind, 2);
                x.setOutput(3);
                x.compile();
                int many = kind == Edge.RANGE ? cap : 2;
                x.step();
                Edge.arrivals(x, 0, many);
                Due.due(many + " tuples of one instant", x.step(), many);
                for (int i = 0; i < many; i++) {
                    Due.due("their instant", x.stored(0, i), 4096 + 256 + i);
                    Due.due("row(1, " + i + ", 1)", x.row(1, i, 1), i);
                }
            }
        }
    }

    private static void theRestIsUnchanged() {
        for (int stream = 0; stream <= 1; stream++) {
            ContinuousQuery x = Edge.fullRows();
            isUnchangedBy(x, stream);
            isUnchangedBy(withRoom(Edge.RANGE, Edge.ROWS), stream);
            isUnchangedBy(withRoom(Edge.ROWS, Edge.RANGE), stream);
        }
    }

    // Twice, so that the store is full and drops a tuple where its window is ROWS.
    private static void isUnchangedBy(ContinuousQuery x, int stream) {
        for (int time = 0; time < 2; time++) {
            int[] want = Due.infos(x);
            List<Integer> other = Due.store(x, 1 - stream);
            List<List<Integer>> out = Due.rows(x, 0);
            List<List<Integer>> relation = Due.rows(x, 1);
            Due.due(call(stream, 9, 99), x.arrive(stream, 9, 99), 0);
            int kind = want[6 + 2 * stream];
            int most = kind == Edge.ROWS ? want[7 + 2 * stream] : want[21];
            want[4 + stream] = Math.min(most, want[4 + stream] + 1);
            Due.infosAre("after " + call(stream, 9, 99), x, want);
            Due.same("the other store", Due.store(x, 1 - stream), other);
            Due.same("the output list", Due.rows(x, 0), out);
            Due.same("the relation", Due.rows(x, 1), relation);
        }
    }
}
