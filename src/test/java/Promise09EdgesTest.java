import java.util.List;

/** Promise 9, compile: each sentence that names a boundary case. */
public final class Promise09EdgesTest {
    public static void main(String[] args) {
        Edge.holds("Phase not CONFIG -> ERR_PHASE.", Promise09EdgesTest::runningIsRefused);
        Edge.holds("Aggregate SUM of column 2 while join is 0 -> ERR_QUERY.",
            Promise09EdgesTest::sumOfTheUnusedStreamIsRefused);
        Edge.holds("Otherwise it does the following and answers OK:", Promise09EdgesTest::everyOtherQueryIsTaken);
        Edge.holds("phase becomes RUNNING", Promise09EdgesTest::phaseBecomesRunning);
        Edge.holds("now becomes 0", Promise09EdgesTest::nowBecomes0);
        Edge.holds("both stores become empty", Promise09EdgesTest::storesBecomeEmpty);
        Edge.holds("output list and relation become empty, so the previous relation for the first step is"
            + " empty.", Promise09EdgesTest::rowListsBecomeEmpty);
        Edge.holds("All clauses keep their stored values.", Promise09EdgesTest::clausesAreKept);
        Edge.holds("After a refusal everything is unchanged, including the phase.",
            Promise09EdgesTest::aRefusalChangesNothing);
        Due.end();
    }

    private static void runningIsRefused() {
        Edge.refused("compile()", Edge.PHASE, Edge.running(), ContinuousQuery::compile);
    }

    private static ContinuousQuery query(int join, int aggregate, int column) {
        ContinuousQuery x = new ContinuousQuery(3);
        x.setJoin(join);
        Due.due("setAggregate(" + aggregate + ", " + column + ")", x.setAggregate(aggregate, column), 0);
        return x;
    }

    private static void sumOfTheUnusedStreamIsRefused() {
        Edge.refusedBy("compile() of SUM 2 without join", Edge.QUERY, () -> query(0, 2, 2),
            ContinuousQuery::compile);
        Edge.refusedBy("compile() with join off again", Edge.QUERY, Promise09EdgesTest::joinOffAgain,
            ContinuousQuery::compile);
        Edge.refusedBy("compile() of SUM 2 without join, the other clauses set", Edge.QUERY,
            Promise09EdgesTest::othersSet, ContinuousQuery::compile);
        for (int mask = 1; mask <= 7; mask++) {
            for (int output = 1; output <= 3; output++) {
                for (int kinds = 0; kinds < 4; kinds++) {
                    int[] clauses = {mask, output, 1 + kinds % 2, 1 + kinds / 2, (mask + kinds) % 5};
                    Edge.refusedBy("compile() of SUM 2 without join, other clauses " + List.of(mask, output, kinds),
                        Edge.QUERY, () -> sum2With(clauses), ContinuousQuery::compile);
                }
            }
        }
    }

    /** SUM of column 2 without join, with this mask, output kind, pair of window kinds and filter op. */
    private static ContinuousQuery sum2With(int[] clauses) {
        ContinuousQuery x = query(0, 2, 2);
        x.setProject(clauses[0]);
        x.setOutput(clauses[1]);
        x.setWindow(0, clauses[2], 2);
        x.setWindow(1, clauses[3], 2);
        x.setFilter(0, 1, clauses[4], 3);
        x.setFilter(1, 0, clauses[4], 3);
        return x;
    }

    private static ContinuousQuery joinOffAgain() {
        ContinuousQuery x = query(1, 2, 2);
        x.setJoin(0);
        return x;
    }

    private static ContinuousQuery othersSet() {
        ContinuousQuery x = Edge.everyClauseSet(4);
        x.setJoin(0);
        return x;
    }

    private static void everyOtherQueryIsTaken() {
        for (int join = 0; join <= 1; join++) {
            for (int output = 1; output <= 3; output++) {
                for (int mask = 1; mask <= 7; mask++) {
                    isTaken(query(join, 0, 2), output, mask);
                    isTaken(query(join, 1, 2), output, mask);
                    isTaken(query(join, 2, 1), output, mask);
                }
            }
        }
        for (int mask = 1; mask <= 7; mask++) {
            isTaken(query(1, 2, 2), 1, mask);
        }
    }

    private static void isTaken(ContinuousQuery x, int output, int mask) {
        x.setOutput(output);
        x.setProject(mask);
        Due.due("compile()", x.compile(), 0);
        Due.due("the phase", x.info(1), 1);
    }

    private static void phaseBecomesRunning() {
        ContinuousQuery x = new ContinuousQuery(3);
        x.compile();
        Due.due("info(1)", x.info(1), 1);
        Due.due("setJoin(1)", x.setJoin(1), Edge.PHASE);
        Due.due("arrive(0, 1, 1)", x.arrive(0, 1, 1), 0);
        Due.due("step()", x.step(), 1);
    }

    private static ContinuousQuery compiledAgain(ContinuousQuery x, int output) {
        x.reset();
        x.setJoin(1);
        x.setOutput(output);
        Due.due("compile() after a run", x.compile(), 0);
        return x;
    }

    private static void nowBecomes0() {
        ContinuousQuery x = compiledAgain(Edge.fullRows(), 1);
        Due.due("info(0)", x.info(0), 0);
        x.arrive(0, 0, 7);
        Due.due("stored(0, 0)", x.stored(0, 0), 7);
    }

    private static void storesBecomeEmpty() {
        for (ContinuousQuery used : List.of(Edge.fullRows(), Edge.fullRanges())) {
            ContinuousQuery x = compiledAgain(used, 3);
            for (int stream = 0; stream <= 1; stream++) {
                Due.due("held in " + stream, x.info(4 + stream), 0);
                for (int i = 0; i < 12; i++) {
                    Due.due("stored(" + stream + ", " + i + ")", x.stored(stream, i), -1);
                }
            }
            Due.due("the first step", x.step(), 0);
            Due.due("its relation", x.info(3), 0);
        }
    }

    private static void rowListsBecomeEmpty() {
        for (ContinuousQuery used : List.of(Edge.fullRows(), Edge.fullRanges())) {
            for (int output = 1; output <= 3; output++) {
                ContinuousQuery x = compiledAgain(used, output);
                Due.due("info(2)", x.info(2), 0);
                Due.due("info(3)", x.info(3), 0);
                for (int i = 0; i < 12; i++) {
                    Due.due("row(0, " + i + ", 0)", x.row(0, i, 0), -1);
                    Due.due("row(1, " + i + ", 0)", x.row(1, i, 0), -1);
                }
                x.arrive(0, 1, 0);
                x.arrive(1, 1, 0);
                Due.due("the first step of output " + output, x.step(), output == 2 ? 0 : 1);
                Due.rowsAre("the first step of output " + output, x, 0, output == 2 ? "" : "1,0,0");
            }
        }
    }

    private static void clausesAreKept() {
        ContinuousQuery x = Edge.everyClauseSet(5);
        x.setFilter(0, 1, 4, Edge.MIN);
        x.setFilter(1, 0, 3, Edge.MAX);
        int[] want = Due.infos(x);
        want[1] = 1;
        x.compile();
        Due.infosAre("after compile", x, want);
        ContinuousQuery y = new ContinuousQuery(12);
        y.setWindow(0, Edge.ROWS, 12);
        y.setWindow(1, Edge.RANGE, 64);
        want = Due.infos(y);
        want[1] = 1;
        y.compile();
        Due.infosAre("after compile with the widest windows", y, want);
    }

    private static void aRefusalChangesNothing() {
        ContinuousQuery x = othersSet();
        String before = Due.state(x);
        for (int time = 0; time < 3; time++) {
            Due.due("compile()", x.compile(), Edge.QUERY);
            Due.same("the state after the refusal", Due.state(x), before);
            Due.due("the phase after the refusal", x.info(1), 0);
            Due.due("arrive after the refusal", x.arrive(0, 1, 1), Edge.PHASE);
            Due.due("step after the refusal", x.step(), Edge.PHASE);
        }
        Due.due("setJoin(1) after the refusal", x.setJoin(1), 0);
        Due.due("compile() once the query is right", x.compile(), 0);
        Due.refused("compile() of a running query", x, Edge.PHASE, () -> x.compile());
    }
}
