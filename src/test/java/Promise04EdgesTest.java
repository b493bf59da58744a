/** Promise 4, setFilter: each sentence that names a boundary case. */
public final class Promise04EdgesTest {
    private static final int[] ANY = {
        Edge.MIN, Edge.MIN + 1, -65536, -257, -256, -255, -1, 0, 1, 2, 15, 16, 127, 128, 255, 256, 257,
        65535, 65536, Edge.MAX - 1, Edge.MAX};

    public static void main(String[] args) {
        Edge.holds("Phase not CONFIG -> ERR_PHASE.", Promise04EdgesTest::runningIsRefused);
        Edge.holds("stream not 0 or 1 -> ERR_ARG.", Promise04EdgesTest::wrongStreamIsRefused);
        Edge.holds("op outside 0..4 -> ERR_ARG.", Promise04EdgesTest::wrongOpIsRefused);
        Edge.holds("op not NONE and field not 0 or 1 -> ERR_ARG.", Promise04EdgesTest::wrongFieldIsRefused);
        Edge.holds("Otherwise it sets the filter of that stream and answers OK:",
            Promise04EdgesTest::setsTheFilterOfThatStream);
        Edge.holds("**op NONE** stores op 0, field 0 and constant 0, whatever field and constant were given.",
            Promise04EdgesTest::noneStoresZeros);
        Edge.holds("An out-of-range field is not refused in this case.",
            Promise04EdgesTest::noneTakesAnyField);
        Edge.holds("**Any other op** stores op, field and constant.", Promise04EdgesTest::otherOpsAreStored);
        Edge.holds("The constant may be any int.", Promise04EdgesTest::anyConstantIsStored);
        Edge.holds("Nothing else changes.", Promise04EdgesTest::nothingElseChanges);
        Due.end();
    }

    private static String call(int stream, int field, int op, int constant) {
        return "setFilter(" + stream + ", " + field + ", " + op + ", " + constant + ")";
    }

    private static void runningIsRefused() {
        for (int stream = -1; stream <= 2; stream++) {
            for (int field = -1; field <= 2; field++) {
                for (int op = -1; op <= 5; op++) {
                    int s = stream;
                    int f = field;
                    int o = op;
                    Edge.refused(call(s, f, o, 1), Edge.PHASE, Edge.running(), x -> x.setFilter(s, f, o, 1));
                }
            }
        }
    }

    private static void wrongArguments(int stream, int field, int op) {
        Edge.refused(call(stream, field, op, 6), Edge.ARG, Edge.config(),
            x -> x.setFilter(stream, field, op, 6));
    }

    private static void wrongStreamIsRefused() {
        for (int stream : Edge.outside(0, 1)) {
            wrongArguments(stream, 0, 0);
            wrongArguments(stream, 1, 4);
        }
    }

    private static void wrongOpIsRefused() {
        for (int op : Edge.outside(0, 4)) {
            wrongArguments(0, 0, op);
            wrongArguments(1, 1, op);
        }
    }

    private static void wrongFieldIsRefused() {
        for (int field : Edge.outside(0, 1)) {
            for (int op = 1; op <= 4; op++) {
                wrongArguments(0, field, op);
                wrongArguments(1, field, op);
            }
        }
    }

    private static void filterIs(String when, ContinuousQuery x, int stream, int op, int field, int constant) {
        Due.due(when + ": op", x.info(10 + 3 * stream), op);
        Due.due(when + ": field", x.info(11 + 3 * stream), field);
        Due.due(when + ": constant", x.info(12 + 3 * stream), constant);
    }

    private static void sets(ContinuousQuery x, int stream, int field, int op, int constant) {
        Due.due(call(stream, field, op, constant), x.setFilter(stream, field, op, constant), 0);
    }

    // Each stream holds values 5 and 6 of one key; the filter leaves one of them on its stream.
    private static void setsTheFilterOfThatStream() {
        String[] want = {"1,5,5 1,5,6", "1,5,5 1,6,5"};
        for (int stream = 0; stream <= 1; stream++) {
            ContinuousQuery x = new ContinuousQuery(4);
            x.setJoin(1);
            sets(x, stream, 1, 3, 6);
            filterIs("the other filter", x, 1 - stream, 0, 0, 0);
            x.compile();
            for (int s = 0; s <= 1; s++) {
                x.arrive(s, 1, 5);
                x.arrive(s, 1, 6);
            }
            Due.due("step()", x.step(), 2);
            Due.rowsAre("a filter of S" + stream, x, 1, want[stream]);
        }
    }

    private static void noneStoresZeros() {
        for (int stream = 0; stream <= 1; stream++) {
            for (int field = 0; field <= 1; field++) {
                for (int constant : ANY) {
                    ContinuousQuery x = new ContinuousQuery(4);
                    sets(x, stream, field, 0, constant);
                    filterIs("on a new object", x, stream, 0, 0, 0);
                    sets(x, stream, 1, 3, 9);
                    sets(x, stream, field, 0, constant);
                    filterIs("after another filter", x, stream, 0, 0, 0);
                }
            }
        }
    }

    private static void noneTakesAnyField() {
        for (int stream = 0; stream <= 1; stream++) {
            for (int field : Edge.outside(0, 1)) {
                ContinuousQuery x = new ContinuousQuery(4);
                sets(x, stream, 1, 4, 200);
                sets(x, stream, field, 0, 5);
                filterIs(call(stream, field, 0, 5), x, stream, 0, 0, 0);
                passesAll(x);
            }
        }
    }

    private static void passesAll(ContinuousQuery x) {
        x.setJoin(1);
        x.compile();
        x.arrive(0, 15, 0);
        x.arrive(1, 15, 255);
        Due.due("step() of a query without filters", x.step(), 1);
    }

    private static void otherOpsAreStored() {
        for (int stream = 0; stream <= 1; stream++) {
            ContinuousQuery x = new ContinuousQuery(4);
            for (int op = 1; op <= 4; op++) {
                for (int field = 0; field <= 1; field++) {
                    sets(x, stream, field, op, 10 * op + field);
                    filterIs(call(stream, field, op, 10 * op + field), x, stream, op, field, 10 * op + field);
                }
            }
        }
    }

    private static void anyConstantIsStored() {
        for (int stream = 0; stream <= 1; stream++) {
            for (int op = 1; op <= 4; op++) {
                for (int field = 0; field <= 1; field++) {
                    for (int constant : ANY) {
                        ContinuousQuery x = new ContinuousQuery(4);
                        sets(x, stream, field, op, constant);
                        filterIs(call(stream, field, op, constant), x, stream, op, field, constant);
                        Due.due("compile()", x.compile(), 0);
                        filterIs("after compile", x, stream, op, field, constant);
                    }
                }
            }
        }
    }

    private static void nothingElseChanges() {
        Edge.config().forEach((state, maker) -> {
            ContinuousQuery x = maker.get();
            for (int stream = 0; stream <= 1; stream++) {
                int first = 10 + 3 * stream;
                for (int constant : ANY) {
                    int[] before = Due.infos(x);
                    x.setFilter(stream, 1, 2, constant);
                    Edge.changedOnly(call(stream, 1, 2, constant) + " on " + state, x, before,
                        first, 2, first + 1, 1, first + 2, constant);
                    before = Due.infos(x);
                    x.setFilter(stream, constant, 0, constant);
                    Edge.changedOnly(call(stream, constant, 0, constant) + " on " + state, x, before,
                        first, 0, first + 1, 0, first + 2, 0);
                }
            }
        });
    }
}
