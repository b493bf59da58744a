/** Promise 12, info: each sentence that names a boundary case. */
public final class Promise12EdgesTest {
    public static void main(String[] args) {
        Edge.holds("`info(what)` answers the value named by an INFO_ code, in either phase:",
            Promise12EdgesTest::bothPhasesAnswer);
        Edge.holds("the current, open instant", Promise12EdgesTest::nowIsTheOpenInstant);
        Edge.holds("PHASE_CONFIG or PHASE_RUNNING", Promise12EdgesTest::bothPhasesAreTold);
        Edge.holds("window kind and size of S0, as set", () -> windowAsSet(0));
        Edge.holds("window kind and size of S1, as set", () -> windowAsSet(1));
        Edge.holds("the filter of a stream, as stored", Promise12EdgesTest::filtersAsStored);
        Edge.holds("the stored clause values", Promise12EdgesTest::clausesAsStored);
        Edge.holds("the clamped cap", Promise12EdgesTest::capIsTheClampedOne);
        Edge.holds("the number of tuples held in the store of S0 or S1", Promise12EdgesTest::heldFromEmptyToFull);
        Edge.holds("the number of rows emitted by the last step", Promise12EdgesTest::outCountFromEmptyToFull);
        Edge.holds("the number of rows of the last computed relation",
            Promise12EdgesTest::relationCountFromEmptyToFull);
        Edge.holds("Counts are 0 whenever the lists are empty, for example after defaults or compile.",
            Promise12EdgesTest::countsOfEmptyLists);
        Edge.holds("Any other code (below 0 or above 21) answers -1.", Promise12EdgesTest::otherCodes);
        Edge.holds("info never changes anything.", Promise12EdgesTest::changesNothing);
        Due.end();
    }

    private static void bothPhasesAnswer() {
        int[] set = {0, 0, 0, 0, 0, 0, 1, 9, 2, 1, 4, 1, -3, 2, 1, 77, 1, 3, 2, 2, 2, 5};
        ContinuousQuery x = Edge.everyClauseSet(5);
        Due.infosAre("in CONFIG", x, set);
        x.compile();
        set[1] = 1;
        Due.infosAre("while RUNNING", x, set);
        int[] full = {2, 1, 6, 6, 3, 2, 2, 3, 2, 2, 2, 1, 99, 0, 0, 0, 1, 7, 0, 0, 3, 3};
        Due.infosAre("with full stores", Edge.fullRows(), full);
        int[] ranges = {2, 1, 2, 2, 2, 2, 1, 3, 1, 1, 0, 0, 0, 0, 0, 0, 1, 7, 0, 0, 2, 2};
        Due.infosAre("with full RANGE stores", Edge.fullRanges(), ranges);
    }

    private static void nowIsTheOpenInstant() {
        ContinuousQuery x = new ContinuousQuery(3);
        Due.due("info(0) in CONFIG", x.info(0), 0);
        x.compile();
        for (int t = 0; t < 1000; t++) {
            Due.due("info(0) before the step at " + t, x.info(0), t);
            x.arrive(0, 1, 1);
            Due.due("info(0) after a tuple at " + t, x.info(0), t);
            Due.due("the instant of that tuple", x.stored(0, x.info(4) - 1), t * 4096 + 257);
            x.step();
        }
        x.reset();
        Due.due("info(0) after reset", x.info(0), 0);
    }

    private static void bothPhasesAreTold() {
        Edge.config().forEach((state, maker) -> Due.due("info(1) of " + state, maker.get().info(1), 0));
        Edge.running().forEach((state, maker) -> Due.due("info(1) of " + state, maker.get().info(1), 1));
    }

    private static void windowAsSet(int stream) {
        for (int cap = 2; cap <= 12; cap++) {
            for (int kind = 1; kind <= 2; kind++) {
                for (int size = 1; size <= (kind == 1 ? 64 : cap); size++) {
                    ContinuousQuery x = new ContinuousQuery(cap);
                    x.setWindow(1 - stream, 3 - kind, 2);
                    x.setWindow(stream, kind, size);
                    windowsAre(x, stream, kind, size);
                    x.compile();
                    x.arrive(0, 1, 1);
                    x.step();
                    windowsAre(x, stream, kind, size);
                }
            }
        }
    }

    private static void windowsAre(ContinuousQuery x, int stream, int kind, int size) {
        Due.due("kind of S" + stream, x.info(6 + 2 * stream), kind);
        Due.due("size of S" + stream, x.info(7 + 2 * stream), size);
        Due.due("kind of the other stream", x.info(8 - 2 * stream), 3 - kind);
        Due.due("size of the other stream", x.info(9 - 2 * stream), 2);
    }

    private static void filtersAsStored() {
        for (int ops = 0; ops < 25; ops++) {
            for (int fields = 0; fields < 4; fields++) {
                ContinuousQuery x = new ContinuousQuery(3);
                x.setFilter(0, fields % 2, ops % 5, -8);
                x.setFilter(1, fields / 2, ops / 5, Edge.MAX);
                filtersAre(x, ops, fields);
                x.compile();
                x.arrive(0, 1, 1);
                x.step();
                filtersAre(x, ops, fields);
            }
        }
    }

    private static void filtersAre(ContinuousQuery x, int ops, int fields) {
        int op0 = ops % 5;
        int op1 = ops / 5;
        Due.due("op of S0", x.info(10), op0);
        Due.due("field of S0", x.info(11), op0 == 0 ? 0 : fields % 2);
        Due.due("constant of S0", x.info(12), op0 == 0 ? 0 : -8);
        Due.due("op of S1", x.info(13), op1);
        Due.due("field of S1", x.info(14), op1 == 0 ? 0 : fields / 2);
        Due.due("constant of S1", x.info(15), op1 == 0 ? 0 : Edge.MAX);
    }

    private static void clausesAsStored() {
        int[][] aggregates = {{0, 0}, {1, 0}, {2, 1}, {2, 2}};
        for (int[] aggregate : aggregates) {
            for (int mask = 1; mask <= 7; mask++) {
                for (int output = 1; output <= 3; output++) {
                    for (int join = aggregate[1] == 2 ? 1 : 0; join <= 1; join++) {
                        ContinuousQuery x = new ContinuousQuery(3);
                        x.setJoin(join);
                        x.setProject(mask);
                        x.setAggregate(aggregate[0], aggregate[1]);
                        x.setOutput(output);
                        int[] want = {join, mask, aggregate[0], aggregate[1], output};
                        clausesAre("in CONFIG", x, want);
                        x.compile();
                        x.arrive(0, 1, 1);
                        x.step();
                        clausesAre("while RUNNING", x, want);
                    }
                }
            }
        }
    }

    private static void clausesAre(String when, ContinuousQuery x, int[] want) {
        for (int i = 0; i < want.length; i++) {
            Due.due(when + ": info(" + (16 + i) + ")", x.info(16 + i), want[i]);
        }
    }

    private static void capIsTheClampedOne() {
        for (int cap = -300; cap <= 300; cap++) {
            ContinuousQuery x = new ContinuousQuery(cap);
            Due.due("info(21) of cap " + cap, x.info(21), Math.max(2, Math.min(12, cap)));
        }
        for (int cap : Edge.outside(2, 12)) {
            ContinuousQuery x = new ContinuousQuery(cap);
            x.compile();
            Due.due("info(21) of cap " + cap, x.info(21), cap < 2 ? 2 : 12);
        }
    }

    private static void heldFromEmptyToFull() {
        for (int stream = 0; stream <= 1; stream++) {
            ContinuousQuery x = new ContinuousQuery(12);
            x.setJoin(1);
            x.compile();
            for (int i = 0; i < 15; i++) {
                Due.due("held after " + i + " tuples", x.info(4 + stream), Math.min(i, 12));
                Due.due("held in the other store", x.info(5 - stream), 0);
                x.arrive(stream, 1, 1);
            }
        }
    }

    /** A join of so many equal tuples of S0 and of S1. */
    private static ContinuousQuery joinOf(int count0, int count1, int output) {
        ContinuousQuery x = new ContinuousQuery(12);
        x.setJoin(1);
        x.setWindow(0, Edge.RANGE, 1);
        x.setOutput(output);
        x.compile();
        Edge.arrivals(x, 0, count0);
        Edge.arrivals(x, 1, count1);
        return x;
    }

    private static void outCountFromEmptyToFull() {
        for (int[] counts : new int[][] {{0, 0}, {1, 0}, {0, 1}, {1, 1}, {11, 12}, {12, 12}}) {
            int rows = counts[0] * counts[1];
            for (int output = 1; output <= 3; output++) {
                ContinuousQuery x = joinOf(counts[0], counts[1], output);
                x.step();
                Due.due("info(2) of output " + output, x.info(2), output == 2 ? 0 : rows);
                x.step();
                Due.due("info(2) of output " + output + " once S0 is empty", x.info(2), output == 2 ? rows : 0);
                x.step();
                Due.due("info(2) of output " + output + " after that", x.info(2), 0);
            }
        }
    }

    private static void relationCountFromEmptyToFull() {
        for (int[] counts : new int[][] {{0, 0}, {1, 0}, {0, 1}, {1, 1}, {11, 12}, {12, 12}}) {
            for (int output = 1; output <= 3; output++) {
                ContinuousQuery x = joinOf(counts[0], counts[1], output);
                x.step();
                Due.due("info(3) of output " + output, x.info(3), counts[0] * counts[1]);
                x.step();
                Due.due("info(3) of output " + output + " once S0 is empty", x.info(3), 0);
            }
        }
    }

    private static void countsOfEmptyLists() {
        countsAre0("after defaults", new ContinuousQuery(3));
        Edge.config().forEach((state, maker) -> countsAre0("on " + state, maker.get()));
        ContinuousQuery x = Edge.fullRows();
        x.reset();
        countsAre0("after reset", x);
        x.compile();
        countsAre0("after compile", x);
        x.step();
        countsAre0("after a step without tuples", x);
        ContinuousQuery y = joinOf(2, 2, 2);
        y.step();
        Due.due("info(2) of a DSTREAM that emits nothing", y.info(2), 0);
        y.step();
        Due.due("info(3) of an empty relation", y.info(3), 0);
        Due.due("info(4) of an empty store", y.info(4), 0);
    }

    private static void countsAre0(String when, ContinuousQuery x) {
        for (int code = 2; code <= 5; code++) {
            Due.due("info(" + code + ") " + when, x.info(code), 0);
        }
    }

    private static void otherCodes() {
        Edge.allStates().forEach((state, maker) -> {
            ContinuousQuery x = maker.get();
            for (int what : Edge.outside(0, 21)) {
                Due.due("info(" + what + ") on " + state, x.info(what), -1);
            }
            for (int what = 22; what <= 300; what++) {
                Due.due("info(" + what + ") on " + state, x.info(what), -1);
                Due.due("info(" + (21 - what) + ") on " + state, x.info(21 - what), -1);
            }
        });
    }

    private static void changesNothing() {
        Edge.allStates().forEach((state, maker) -> {
            int[] infos = Due.infos(maker.get());
            for (int what = -2; what <= 23; what++) {
                int code = what;
                int answer = what < 0 || what > 21 ? -1 : infos[what];
                Edge.changesNothing("info(" + what + ") on " + state, answer, maker, x -> x.info(code));
            }
        });
    }
}
