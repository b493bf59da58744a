import java.util.List;

/** Promise 1, construction and defaults: each sentence that names a boundary case. */
public final class Promise01EdgesTest {
    public static void main(String[] args) {
        Edge.holds("any cap below 2 (including zero, negative values and Integer.MIN_VALUE) becomes 2",
            Promise01EdgesTest::aCapBelow2Becomes2);
        Edge.holds("any cap above 12 becomes 12", Promise01EdgesTest::aCapAbove12Becomes12);
        Edge.holds("values in 2..12 are kept as given", Promise01EdgesTest::capsBetweenAreKept);
        Edge.holds("cap never changes afterwards.", Promise01EdgesTest::capNeverChanges);
        Edge.holds("phase CONFIG and now 0", Promise01EdgesTest::phaseIsConfigAndNow0);
        Edge.holds("both stores empty", Promise01EdgesTest::storesAreEmpty);
        Edge.holds("output list and relation empty", Promise01EdgesTest::rowListsAreEmpty);
        Edge.holds("both windows ROWS of size cap", Promise01EdgesTest::windowsAreRowsOfSizeCap);
        Edge.holds("both filters op NONE, field 0, constant 0", Promise01EdgesTest::filtersPassAll);
        Edge.holds("join 0 and project 7", Promise01EdgesTest::joinIsOffAndAllColumnsStay);
        Edge.holds("aggregate NONE, column 0", Promise01EdgesTest::nothingIsGrouped);
        Edge.holds("output ISTREAM", Promise01EdgesTest::outputIsIstream);
        Edge.holds("The previous relation is empty.", Promise01EdgesTest::previousRelationIsEmpty);
        Due.end();
    }

    private static void aCapBelow2Becomes2() {
        int[] caps = {1, 0, -1, -2, -3, -12, -13, -254, -256, -65530, -65536, Edge.MIN + 5, Edge.MIN + 1,
            Edge.MIN};
        for (int cap : caps) {
            hasCap("cap " + cap, cap, 2);
        }
    }

    private static void aCapAbove12Becomes12() {
        int[] caps = {13, 14, 15, 16, 24, 64, 144, 255, 256, 261, 65536, 65541, Edge.MAX - 1, Edge.MAX};
        for (int cap : caps) {
            hasCap("cap " + cap, cap, 12);
        }
    }

    private static void capsBetweenAreKept() {
        for (int cap = 2; cap <= 12; cap++) {
            hasCap("cap " + cap, cap, cap);
        }
    }

    /** The cap that info tells, and the one that windows and a RANGE store show. */
    private static void hasCap(String when, int given, int cap) {
        ContinuousQuery x = new ContinuousQuery(given);
        Due.due(when + ": info(21)", x.info(21), cap);
        Due.due(when + ": info(7)", x.info(7), cap);
        Due.due(when + ": info(9)", x.info(9), cap);
        Due.due(when + ": the widest ROWS", x.setWindow(1, Edge.ROWS, cap), 0);
        Due.due(when + ": ROWS too wide", x.setWindow(1, Edge.ROWS, cap + 1), Edge.ARG);
        x.setWindow(0, Edge.RANGE, 1);
        x.compile();
        Edge.arrivals(x, 0, cap);
        Due.due(when + ": one tuple too many", x.arrive(0, 1, 1), Edge.FULL);
    }

    private static void capNeverChanges() {
        for (int cap : new int[] {Edge.MIN, 2, 7, 12, Edge.MAX}) {
            ContinuousQuery x = Edge.everyClauseSet(cap);
            int kept = Math.max(2, Math.min(12, cap));
            Due.due("info(21) after the clauses", x.info(21), kept);
            x.setWindow(0, Edge.ROWS, 1);
            x.setWindow(0, Edge.RANGE, 64);
            x.setWindow(0, Edge.ROWS, 13);
            Due.due("info(21) after windows", x.info(21), kept);
            x.compile();
            Due.due("info(21) after compile", x.info(21), kept);
            Edge.arrivals(x, 0, kept);
            Due.due("a tuple too many", x.arrive(0, 1, 1), Edge.FULL);
            x.step();
            Due.due("info(21) after a step", x.info(21), kept);
            x.reset();
            Due.due("info(21) after reset", x.info(21), kept);
            Due.due("info(7) after reset", x.info(7), kept);
        }
    }

    private static void phaseIsConfigAndNow0() {
        ContinuousQuery x = new ContinuousQuery(5);
        Due.due("info(1)", x.info(1), 0);
        Due.due("info(0)", x.info(0), 0);
        Due.due("step()", x.step(), Edge.PHASE);
        Due.due("arrive(0, 1, 1)", x.arrive(0, 1, 1), Edge.PHASE);
        Due.due("setJoin(1)", x.setJoin(1), 0);
    }

    private static void storesAreEmpty() {
        ContinuousQuery x = new ContinuousQuery(5);
        for (int stream = 0; stream <= 1; stream++) {
            Due.due("held in " + stream, x.info(4 + stream), 0);
            for (int i = -1; i <= 12; i++) {
                Due.due("stored(" + stream + ", " + i + ")", x.stored(stream, i), -1);
            }
        }
    }

    private static void rowListsAreEmpty() {
        ContinuousQuery x = new ContinuousQuery(5);
        for (int which = 0; which <= 1; which++) {
            Due.due("count of list " + which, x.info(2 + which), 0);
            for (int i = -1; i <= 144; i++) {
                Due.due("row(" + which + ", " + i + ", 0)", x.row(which, i, 0), -1);
            }
        }
    }

    private static void windowsAreRowsOfSizeCap() {
        for (int cap = 2; cap <= 12; cap++) {
            ContinuousQuery x = new ContinuousQuery(cap);
            Due.due("info(6)", x.info(6), Edge.ROWS);
            Due.due("info(7)", x.info(7), cap);
            Due.due("info(8)", x.info(8), Edge.ROWS);
            Due.due("info(9)", x.info(9), cap);
            x.setJoin(1);
            x.compile();
            for (int stream = 0; stream <= 1; stream++) {
                Edge.arrivals(x, stream, cap);
                Due.due("the oldest of a full store", x.stored(stream, 0), 256);
                Due.due("a tuple more", x.arrive(stream, 1, 200), 0);
                Due.due("held", x.info(4 + stream), cap);
                Due.due("the oldest after it", x.stored(stream, 0), 257);
            }
        }
    }

    private static void filtersPassAll() {
        ContinuousQuery x = new ContinuousQuery(5);
        for (int code = 10; code <= 15; code++) {
            Due.due("info(" + code + ")", x.info(code), 0);
        }
        x.setJoin(1);
        x.compile();
        for (int stream = 0; stream <= 1; stream++) {
            x.arrive(stream, 0, 0);
            x.arrive(stream, 15, 255);
        }
        Due.due("step()", x.step(), 2);
        Due.rowsAre("both ends", x, 1, "0,0,0 15,255,255");
    }

    private static void joinIsOffAndAllColumnsStay() {
        ContinuousQuery x = new ContinuousQuery(5);
        Due.due("info(16)", x.info(16), 0);
        Due.due("info(17)", x.info(17), 7);
        x.compile();
        Due.due("arrive(1, 1, 1)", x.arrive(1, 1, 1), Edge.UNUSED);
        x.arrive(0, 15, 255);
        x.step();
        Due.rowsAre("S0 alone", x, 1, "15,255,0");
    }

    private static void nothingIsGrouped() {
        ContinuousQuery x = new ContinuousQuery(5);
        Due.due("info(18)", x.info(18), 0);
        Due.due("info(19)", x.info(19), 0);
        x.compile();
        Edge.arrivals(x, 0, 2);
        x.step();
        Due.rowsAre("not grouped", x, 1, "1,0,0 1,1,0");
    }

    private static void outputIsIstream() {
        ContinuousQuery x = new ContinuousQuery(5);
        Due.due("info(20)", x.info(20), 1);
        x.compile();
        Edge.arrivals(x, 0, 2);
        Due.due("the step of new rows", x.step(), 2);
        Due.due("the step of old rows", x.step(), 0);
    }

    private static void previousRelationIsEmpty() {
        for (int output = 1; output <= 3; output++) {
            ContinuousQuery x = new ContinuousQuery(5);
            x.setOutput(output);
            x.setProject(4);
            x.compile();
            Edge.arrivals(x, 0, 2);
            // Projected to zeros, so that rows left over from anywhere would pair off with them.
            String want = output == 2 ? "" : "0,0,0 0,0,0";
            Due.due("the first step of output " + output, x.step(), output == 2 ? 0 : 2);
            Due.rowsAre("output " + output, x, 0, want);
            Due.same("the store", Due.store(x, 0), List.of(256, 257));
        }
    }
}
