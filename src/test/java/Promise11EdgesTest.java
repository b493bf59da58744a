import java.util.ArrayList;
import java.util.List;

/**
 * Promise 11, step and the evaluation of the query: each sentence that names a boundary case. The
 * wrap-around of now has its own test, WrapAroundTest.
 */
public final class Promise11EdgesTest {
    public static void main(String[] args) {
        Edge.holds("In phase CONFIG, `step()` answers ERR_PHASE and changes nothing.",
            Promise11EdgesTest::configIsRefused);
        Edge.holds("Otherwise, with t = now, it does the following in this order:",
            Promise11EdgesTest::onePlaceAfterTheOther);
        Edge.holds("R(t) is evaluated as defined below.", Promise11EdgesTest::evaluatedBeforeExpiry);
        Edge.holds("The output list is set from R(t) and the previous relation, according to the output kind.",
            Promise11EdgesTest::outputComesBeforeTheNewRelation);
        Edge.holds("R(t) becomes the relation.", Promise11EdgesTest::theRelationIsReplaced);
        Edge.holds("For each stream with a RANGE r window, held tuples with ts <= now - r are removed",
            Promise11EdgesTest::rangeRemovesUpToItsEdge);
        Edge.holds("the remaining tuples keep their order.", Promise11EdgesTest::remainingKeepTheirOrder);
        Edge.holds("Stores under a ROWS window are not changed by a step.", Promise11EdgesTest::rowsStoresStay);
        Edge.holds("The call answers the number of output rows, which is >= 0 and equals info(INFO_OUT_COUNT)"
            + " afterwards.", Promise11EdgesTest::answersTheNumberOfRows);
        Edge.holds("W_s is the list of tuples held in the store of s at the start of the step",
            Promise11EdgesTest::whatIsHeldTakesPart);
        Edge.holds("the window contents (identical tuples count separately).",
            Promise11EdgesTest::identicalTuplesCount);
        Edge.holds("F_s is the tuples of W_s that pass the filter of s, duplicates kept.",
            Promise11EdgesTest::filterKeepsDuplicates);
        Edge.holds("Op NONE passes all tuples.", Promise11EdgesTest::nonePassesAll);
        Edge.holds("Otherwise let f be the key or the value as the stored field chooses, and c the stored constant",
            Promise11EdgesTest::theFieldChooses);
        Edge.holds("EQ: f == c", () -> filterAtItsEdges(1));
        Edge.holds("NE: f != c", () -> filterAtItsEdges(2));
        Edge.holds("LT: f < c", () -> filterAtItsEdges(3));
        Edge.holds("GT: f > c", () -> filterAtItsEdges(4));
        Edge.holds("Filters act on the window contents, so filtered-out tuples still use ROWS places.",
            Promise11EdgesTest::filteredOutTuplesUsePlaces);
        restOfTheSentences();
        Due.end();
    }

    private static void restOfTheSentences() {
        Edge.holds("Join off: for each x in F_0, one row (x.key, x.value, 0).", Promise11EdgesTest::joinOff);
        Edge.holds("Join on: for each pair (x in F_0, y in F_1) with x.key == y.key, one row (x.key, x.value,"
            + " y.value).", Promise11EdgesTest::joinFromEmptyToFull);
        Edge.holds("Aggregate NONE: the rows stay as they are.", Promise11EdgesTest::noneKeepsRows);
        Edge.holds("COUNT or SUM: for each key k that has at least one base row with column 0 == k, there is one"
            + " row (k, A, 0).", Promise11EdgesTest::oneRowForEachKey);
        Edge.holds("A is the number of those base rows (COUNT)", Promise11EdgesTest::countFrom1To144);
        Edge.holds("the sum of column a of those base rows (SUM, a = the stored aggregate column, 1 or 2).",
            Promise11EdgesTest::sumFromZeroToGreatest);
        Edge.holds("Keys with no base row give no row.", Promise11EdgesTest::keysWithoutRowsGiveNone);
        Edge.holds("each column i (0..2) whose bit (1 << i) of the project mask is 0 is set to 0.",
            Promise11EdgesTest::projectionOfGreatestColumns);
        Edge.holds("Then, after aggregation, in every resulting row", Promise11EdgesTest::projectionComesLast);
        Edge.holds("ISTREAM: max(0, m_t(r) - m_(t-1)(r)) times", () -> multiplicities(1));
        Edge.holds("DSTREAM: max(0, m_(t-1)(r) - m_t(r)) times", () -> multiplicities(2));
        Edge.holds("RSTREAM: m_t(r) times.", () -> multiplicities(3));
        Edge.holds("Every row list, output and relation alike, is sorted ascending by column 0, then column 1,"
            + " then column 2, so equal rows are adjacent.", Promise11EdgesTest::listsAreSorted);
        Edge.holds("it is empty for the first step after compile.", Promise11EdgesTest::firstStepHasNoPast);
        Edge.holds("Window expiry and ROWS eviction therefore show up as deletions, and these pass through join"
            + " and grouping.", Promise11EdgesTest::deletionsPassThrough);
    }

    private static void configIsRefused() {
        Edge.refused("step()", Edge.PHASE, Edge.config(), ContinuousQuery::step);
    }

    // One step whose output, relation, now and stores each need what stood before it.
    private static void onePlaceAfterTheOther() {
        for (int output = 1; output <= 3; output++) {
            ContinuousQuery x = new ContinuousQuery(3);
            x.setJoin(1);
            x.setWindow(0, Edge.RANGE, 2);
            x.setWindow(1, Edge.RANGE, 1);
            x.setOutput(output);
            x.compile();
            x.arrive(0, 4, 1);
            x.arrive(1, 4, 2);
            x.step();
            x.arrive(0, 4, 3);
            x.arrive(1, 4, 5);
            Due.due("the step at 1", x.step(), output == 2 ? 1 : 2);
            Due.rowsAre("output " + output, x, 0, output == 2 ? "4,1,2" : "4,1,5 4,3,5");
            Due.rowsAre("relation", x, 1, "4,1,5 4,3,5");
            Due.due("now", x.info(0), 2);
            Due.same("the store of S0", Due.store(x, 0), List.of(4096 + 4 * 256 + 3));
            Due.same("the store of S1", Due.store(x, 1), List.of());
        }
    }

    private static void evaluatedBeforeExpiry() {
        for (int stream = 0; stream <= 1; stream++) {
            ContinuousQuery x = new ContinuousQuery(2);
            x.setJoin(1);
            x.setWindow(stream, Edge.RANGE, 1);
            x.compile();
            x.arrive(0, 2, 3);
            x.arrive(1, 2, 4);
            Due.due("the step of tuples that expire with it", x.step(), 1);
            Due.rowsAre("R(0)", x, 1, "2,3,4");
            Due.due("held after the step", x.info(4 + stream), 0);
        }
    }

    private static void outputComesBeforeTheNewRelation() {
        String[] first = {"", "1,1,0", "", "1,1,0"};
        String[] second = {"", "2,2,0", "1,1,0", "2,2,0"};
        String[] third = {"", "", "2,2,0", ""};
        for (int output = 1; output <= 3; output++) {
            ContinuousQuery x = new ContinuousQuery(2);
            x.setWindow(0, Edge.RANGE, 1);
            x.setOutput(output);
            x.compile();
            x.arrive(0, 1, 1);
            x.step();
            Due.rowsAre("output " + output + " at 0", x, 0, first[output]);
            x.arrive(0, 2, 2);
            x.step();
            Due.rowsAre("output " + output + " at 1", x, 0, second[output]);
            Due.rowsAre("relation at 1", x, 1, "2,2,0");
            x.step();
            Due.rowsAre("output " + output + " at 2", x, 0, third[output]);
            Due.rowsAre("relation at 2", x, 1, "");
        }
    }

    // The relation grows, shrinks and becomes empty, whatever the output kind.
    private static void theRelationIsReplaced() {
        for (int output = 1; output <= 3; output++) {
            ContinuousQuery x = new ContinuousQuery(12);
            x.setWindow(0, Edge.RANGE, 1);
            x.setOutput(output);
            x.compile();
            for (int count : new int[] {0, 1, 12, 3, 0, 0, 2, 12, 0}) {
                Edge.arrivals(x, 0, count);
                x.step();
                Due.due("rows of the relation", x.info(3), count);
                for (int i = 0; i < count; i++) {
                    Due.same("row " + i, Due.rows(x, 1).get(i), List.of(1, i, 0));
                }
                Due.due("the row after the last", x.row(1, count, 0), -1);
            }
        }
    }

    // A tuple in every instant that has room; what stays is told by the rule itself, whatever the
    // query makes of it.
    private static void rangeRemovesUpToItsEdge() {
        int[][] aggregates = {{0, 0}, {1, 0}, {2, 1}, {2, 2}};
        for (int r = 1; r <= 64; r++) {
            for (int kind = 0; kind < 8; kind++) {
                int[] aggregate = aggregates[kind / 2];
                ContinuousQuery x = new ContinuousQuery(12);
                x.setJoin(aggregate[1] == 2 ? 1 : kind % 2);
                x.setWindow(0, Edge.RANGE, r);
                x.setWindow(1, Edge.RANGE, 65 - r);
                x.setAggregate(aggregate[0], aggregate[1]);
                x.setProject(1 + r % 7);
                x.setOutput(1 + r % 3);
                x.setFilter(0, r % 2, r % 5, 4);
                Due.due("compile()", x.compile(), 0);
                removesUpToItsEdge(x, r, 65 - r);
            }
        }
    }

    private static void removesUpToItsEdge(ContinuousQuery x, int r0, int r1) {
        List<Integer> held0 = new ArrayList<>();
        List<Integer> held1 = new ArrayList<>();
        for (int t = 0; t < 150; t++) {
            arriveWhereRoom(x, 0, t, held0);
            if (x.info(16) == 1) {
                arriveWhereRoom(x, 1, t, held1);
            }
            x.step();
            int limit0 = t + 1 - r0;
            int limit1 = t + 1 - r1;
            held0.removeIf(ts -> ts <= limit0);
            held1.removeIf(ts -> ts <= limit1);
            Due.same("RANGE " + r0 + " after instant " + t, Due.store(x, 0), told(held0));
            Due.same("RANGE " + r1 + " after instant " + t, Due.store(x, 1), told(held1));
        }
    }

    private static void arriveWhereRoom(ContinuousQuery x, int stream, int t, List<Integer> held) {
        boolean room = held.size() < 12;
        Due.due("arrive at " + t, x.arrive(stream, 3, 5), room ? 0 : Edge.FULL);
        if (room) {
            held.add(t);
        }
    }

    private static List<Integer> told(List<Integer> instants) {
        List<Integer> answers = new ArrayList<>();
        for (int ts : instants) {
            answers.add(ts * 4096 + 3 * 256 + 5);
        }
        return answers;
    }

    private static void remainingKeepTheirOrder() {
        for (int stream = 0; stream <= 1; stream++) {
            ContinuousQuery x = new ContinuousQuery(12);
            x.setJoin(1);
            x.setWindow(stream, Edge.RANGE, 2);
            x.compile();
            int[][] tuples = {{9, 1}, {2, 200}, {9, 1}, {0, 0}, {15, 255}, {3, 3}};
            for (int i = 0; i < 3; i++) {
                x.arrive(stream, tuples[i][0], tuples[i][1]);
            }
            x.step();
            for (int i = 3; i < 6; i++) {
                x.arrive(stream, tuples[i][0], tuples[i][1]);
            }
            List<Integer> before = Due.store(x, stream);
            Due.same("before the step", before,
                List.of(9 * 256 + 1, 712, 9 * 256 + 1, 4096, 4096 + 4095, 4096 + 771));
            x.step();
            Due.same("what remains", Due.store(x, stream), before.subList(3, 6));
            x.step();
            Due.same("what remains after that", Due.store(x, stream), List.of());
        }
    }

    private static void rowsStoresStay() {
        for (int n = 1; n <= 12; n++) {
            ContinuousQuery x = new ContinuousQuery(12);
            x.setJoin(1);
            x.setWindow(0, Edge.ROWS, n);
            x.setWindow(1, Edge.ROWS, 13 - n);
            x.compile();
            Edge.arrivals(x, 0, n);
            Edge.arrivals(x, 1, 1);
            List<Integer> full = Due.store(x, 0);
            List<Integer> one = Due.store(x, 1);
            for (int t = 0; t < 100; t++) {
                x.step();
                Due.same("the full ROWS store after instant " + t, Due.store(x, 0), full);
                Due.same("the other ROWS store after instant " + t, Due.store(x, 1), one);
            }
        }
    }

    private static ContinuousQuery join(int count0, int count1, int output) {
        ContinuousQuery x = new ContinuousQuery(12);
        x.setJoin(1);
        x.setWindow(0, Edge.RANGE, 1);
        x.setOutput(output);
        x.compile();
        Edge.arrivals(x, 0, count0);
        Edge.arrivals(x, 1, count1);
        return x;
    }

    private static void answersTheNumberOfRows() {
        for (int output = 1; output <= 3; output++) {
            for (int count = 0; count <= 12; count++) {
                ContinuousQuery x = join(count, 12, output);
                int rows = 12 * count;
                answers(x, output == 2 ? 0 : rows);
                answers(x, output == 2 ? rows : 0);
                answers(x, 0);
            }
        }
    }

    private static void answers(ContinuousQuery x, int want) {
        Due.due("step()", x.step(), want);
        Due.due("info(2)", x.info(2), want);
    }

    // Tuples of this instant and of the one before, of both streams, but none that was dropped.
    private static void whatIsHeldTakesPart() {
        ContinuousQuery x = new ContinuousQuery(4);
        x.setJoin(1);
        x.setWindow(0, Edge.RANGE, 2);
        x.setWindow(1, Edge.ROWS, 2);
        x.compile();
        x.arrive(0, 6, 10);
        x.arrive(1, 6, 20);
        x.arrive(1, 6, 21);
        x.step();
        x.arrive(0, 6, 11);
        x.arrive(1, 6, 22);
        Due.same("S0 at the start of the step", Due.store(x, 0), List.of(1546, 4096 + 1547));
        Due.same("S1 at the start of the step", Due.store(x, 1), List.of(1557, 4096 + 1558));
        x.step();
        Due.rowsAre("what was held", x, 1, "6,10,21 6,10,22 6,11,21 6,11,22");
        x.step();
        Due.rowsAre("what was held a step later", x, 1, "6,11,21 6,11,22");
    }

    private static void identicalTuplesCount() {
        for (int count = 1; count <= 12; count++) {
            ContinuousQuery x = new ContinuousQuery(12);
            x.compile();
            for (int i = 0; i < count; i++) {
                x.arrive(0, 15, 255);
            }
            Due.due(count + " identical tuples", x.step(), count);
            Due.due("the relation", x.info(3), count);
            Due.due("its last row", x.row(1, count - 1, 1), 255);
        }
    }

    private static void filterKeepsDuplicates() {
        ContinuousQuery x = new ContinuousQuery(12);
        x.setJoin(1);
        x.setFilter(0, 0, 1, 4);
        x.setFilter(1, 1, 4, 254);
        x.compile();
        for (int i = 0; i < 3; i++) {
            x.arrive(0, 4, 0);
            x.arrive(0, 5, 0);
            x.arrive(1, 4, 255);
            x.arrive(1, 4, 254);
        }
        Due.due("step()", x.step(), 9);
        Due.due("the relation", x.info(3), 9);
        for (int i = 0; i < 9; i++) {
            Due.same("row " + i, Due.rows(x, 1).get(i), List.of(4, 0, 255));
        }
    }

    private static void nonePassesAll() {
        ContinuousQuery x = new ContinuousQuery(12);
        x.setFilter(0, 1, 1, 99);
        x.setFilter(0, 1, 0, 99);
        x.compile();
        x.arrive(0, 0, 0);
        x.arrive(0, 15, 255);
        x.arrive(0, 0, 255);
        Due.due("step()", x.step(), 3);
        Due.rowsAre("all tuples", x, 1, "0,0,0 0,255,0 15,255,0");
    }

    private static void theFieldChooses() {
        String[] want = {"3,4,0 3,5,0", "3,4,0 5,4,0"};
        for (int field = 0; field <= 1; field++) {
            ContinuousQuery x = new ContinuousQuery(4);
            x.setFilter(0, field, 1, 3 + field);
            x.setFilter(1, 1 - field, 2, 3);
            x.compile();
            x.arrive(0, 3, 5);
            x.arrive(0, 5, 3);
            x.arrive(0, 5, 4);
            x.arrive(0, 3, 4);
            x.step();
            Due.rowsAre("field " + field, x, 1, want[field]);
        }
    }

    // Constants at, below and above what is tested, and far outside of what a tuple may have.
    private static void filterAtItsEdges(int op) {
        int[] constants = {
            Edge.MIN, Edge.MIN + 1, -65536, -256, -1, 0, 1, 2, 13, 14, 15, 16, 127, 128, 129, 254, 255, 256,
            257, 271, 511, 65536, 65551, Edge.MAX - 1, Edge.MAX};
        for (int constant : constants) {
            for (int field = 0; field <= 1; field++) {
                for (int stream = 0; stream <= 1; stream++) {
                    filterOf(stream, field, op, constant);
                }
            }
        }
    }

    private static void filterOf(int stream, int field, int op, int constant) {
        int[] tested = field == 0 ? new int[] {0, 1, 14, 15} : new int[] {0, 1, 128, 254, 255};
        for (int f : tested) {
            ContinuousQuery x = new ContinuousQuery(2);
            x.setJoin(1);
            x.setFilter(stream, field, op, constant);
            x.compile();
            int key = field == 0 ? f : 7;
            int value = field == 0 ? 77 : f;
            x.arrive(stream, key, value);
            x.arrive(1 - stream, key, 99);
            boolean passes = op == 1 && f == constant || op == 2 && f != constant
                || op == 3 && f < constant || op == 4 && f > constant;
            String when = "S" + stream + ", " + f + " against op " + op + " " + constant;
            Due.due(when, x.step(), passes ? 1 : 0);
        }
    }

    private static void filteredOutTuplesUsePlaces() {
        for (int stream = 0; stream <= 1; stream++) {
            for (int n = 1; n <= 4; n++) {
                ContinuousQuery x = new ContinuousQuery(4);
                x.setJoin(1);
                x.setWindow(stream, Edge.ROWS, n);
                x.setFilter(stream, 1, 3, 50);
                x.setOutput(3);
                x.compile();
                x.arrive(1 - stream, 1, 0);
                x.arrive(stream, 1, 10);
                for (int i = 1; i < n; i++) {
                    x.arrive(stream, 1, 50 + i);
                    Due.due("ROWS " + n + " with " + i + " filtered out", x.step(), 1);
                }
                x.arrive(stream, 1, 99);
                Due.due("ROWS " + n + " full of filtered-out tuples", x.step(), 0);
                Due.due("held", x.info(4 + stream), n);
            }
        }
    }

    private static void joinOff() {
        for (int count = 0; count <= 12; count++) {
            ContinuousQuery x = new ContinuousQuery(12);
            x.compile();
            List<List<Integer>> want = new ArrayList<>();
            for (int i = 0; i < count; i++) {
                x.arrive(0, 15 - i, 255 - i);
                want.add(0, List.of(15 - i, 255 - i, 0));
            }
            Due.due("step() of " + count + " tuples", x.step(), count);
            Due.same("its rows", Due.rows(x, 1), want);
        }
    }

    private static void joinFromEmptyToFull() {
        for (int count0 = 0; count0 <= 12; count0++) {
            for (int count1 = 0; count1 <= 12; count1++) {
                ContinuousQuery x = join(count0, count1, 3);
                List<List<Integer>> want = new ArrayList<>();
                for (int i = 0; i < count0 * count1; i++) {
                    want.add(List.of(1, i / count1, i % count1));
                }
                Due.due("a join of " + count0 + " and " + count1, x.step(), want.size());
                Due.same("its rows", Due.rows(x, 1), want);
            }
        }
        ContinuousQuery x = new ContinuousQuery(12);
        x.setJoin(1);
        x.compile();
        for (int i = 0; i < 8; i++) {
            x.arrive(0, i, i);
            x.arrive(1, 15 - i, i);
        }
        Due.due("a join without equal keys", x.step(), 0);
        x.arrive(0, 15, 255);
        x.arrive(1, 0, 255);
        Due.due("a join of the first and the last key", x.step(), 2);
        Due.rowsAre("the first and the last key", x, 1, "0,0,255 15,255,0");
    }

    private static void noneKeepsRows() {
        ContinuousQuery x = new ContinuousQuery(4);
        x.setAggregate(1, 0);
        x.setAggregate(0, 1);
        x.compile();
        x.arrive(0, 3, 7);
        x.arrive(0, 3, 7);
        x.arrive(0, 0, 0);
        x.step();
        Due.rowsAre("equal rows stay two", x, 1, "0,0,0 3,7,0 3,7,0");
    }

    /** A grouped join of so many equal tuples of key 15 on both sides. */
    private static ContinuousQuery grouped(int aggregate, int column, int count0, int count1, int value) {
        ContinuousQuery x = new ContinuousQuery(12);
        x.setJoin(1);
        x.setAggregate(aggregate, column);
        x.compile();
        for (int i = 0; i < count0; i++) {
            x.arrive(0, 15, value);
        }
        for (int i = 0; i < count1; i++) {
            x.arrive(1, 15, value);
        }
        x.step();
        return x;
    }

    // From no key to as many as a store may hold.
    private static void oneRowForEachKey() {
        for (int aggregate = 1; aggregate <= 2; aggregate++) {
            for (int keys = 0; keys <= 12; keys++) {
                ContinuousQuery x = new ContinuousQuery(12);
                x.setAggregate(aggregate, 1);
                x.compile();
                List<List<Integer>> want = new ArrayList<>();
                for (int i = 0; i < keys; i++) {
                    x.arrive(0, 15 - i, 1);
                    want.add(0, List.of(15 - i, 1, 0));
                }
                Due.due(keys + " keys", x.step(), keys);
                Due.same("their rows", Due.rows(x, 1), want);
            }
            ContinuousQuery x = new ContinuousQuery(12);
            x.setAggregate(aggregate, 1);
            x.compile();
            for (int i = 0; i < 12; i++) {
                x.arrive(0, i % 2 * 15, 1);
            }
            x.step();
            Due.rowsAre("twelve tuples of two keys", x, 1, "0,6,0 15,6,0");
        }
    }

    private static void countFrom1To144() {
        Due.rowsAre("COUNT of no pairs", grouped(1, 0, 12, 0, 9), 1, "");
        for (int count = 1; count <= 12; count++) {
            Due.rowsAre("COUNT", grouped(1, 0, count, 1, 0), 1, "15," + count + ",0");
            Due.rowsAre("COUNT", grouped(1, 0, 1, count, 0), 1, "15," + count + ",0");
            Due.rowsAre("COUNT", grouped(1, 0, 12, count, 255), 1, "15," + 12 * count + ",0");
        }
    }

    private static void sumFromZeroToGreatest() {
        for (int column = 1; column <= 2; column++) {
            Due.rowsAre("SUM of no pairs", grouped(2, column, 0, 12, 9), 1, "");
            Due.rowsAre("SUM of zeros", grouped(2, column, 12, 12, 0), 1, "15,0,0");
            Due.rowsAre("SUM of one", grouped(2, column, 1, 1, 255), 1, "15,255,0");
            Due.rowsAre("SUM past a byte", grouped(2, column, 2, 1, 128), 1, "15,256,0");
            Due.rowsAre("SUM past 15 bits", grouped(2, column, 12, 11, 255), 1, "15,33660,0");
            Due.rowsAre("the greatest SUM", grouped(2, column, 12, 12, 255), 1, "15,36720,0");
        }
        ContinuousQuery x = new ContinuousQuery(3);
        x.setAggregate(2, 1);
        x.compile();
        x.arrive(0, 0, 255);
        x.arrive(0, 15, 1);
        x.arrive(0, 0, 255);
        x.step();
        Due.rowsAre("SUM without join", x, 1, "0,510,0 15,1,0");
    }

    private static void keysWithoutRowsGiveNone() {
        for (int aggregate = 1; aggregate <= 2; aggregate++) {
            ContinuousQuery x = new ContinuousQuery(4);
            x.setAggregate(aggregate, 1);
            x.setFilter(0, 1, 2, 9);
            x.setOutput(3);
            x.compile();
            Due.due("no tuple at all", x.step(), 0);
            x.arrive(0, 0, 9);
            x.arrive(0, 15, 9);
            Due.due("every tuple filtered out", x.step(), 0);
            x.arrive(0, 15, 1);
            Due.due("one key with a row", x.step(), 1);
            Due.rowsAre("one key with a row", x, 1, "15,1,0");
        }
        ContinuousQuery x = new ContinuousQuery(4);
        x.setJoin(1);
        x.setAggregate(1, 0);
        x.compile();
        x.arrive(0, 2, 2);
        x.arrive(0, 3, 3);
        x.arrive(1, 3, 3);
        x.arrive(1, 4, 4);
        x.step();
        Due.rowsAre("keys of one side only", x, 1, "3,1,0");
        groupsComeAndGo();
    }

    // Each key has a row in one instant and none in the next ones.
    private static void groupsComeAndGo() {
        for (int aggregate = 1; aggregate <= 2; aggregate++) {
            ContinuousQuery x = new ContinuousQuery(4);
            x.setAggregate(aggregate, 1);
            x.setWindow(0, Edge.RANGE, 1);
            x.compile();
            for (int t = 0; t < 48; t++) {
                int key = t * 5 % 16;
                x.arrive(0, key, 1);
                x.arrive(0, key, 1);
                Due.due("the step of key " + key, x.step(), 1);
                Due.rowsAre("the step of key " + key, x, 1, key + ",2,0");
            }
            Due.due("the step without a key", x.step(), 0);
            Due.due("its relation", x.info(3), 0);
        }
    }

    private static void projectionOfGreatestColumns() {
        for (int mask = 1; mask <= 7; mask++) {
            ContinuousQuery x = new ContinuousQuery(4);
            x.setJoin(1);
            x.setProject(mask);
            x.compile();
            x.arrive(0, 15, 255);
            x.arrive(1, 15, 255);
            x.arrive(0, 0, 1);
            x.arrive(1, 0, 1);
            int[] bits = {mask & 1, mask >> 1 & 1, mask >> 2 & 1};
            Due.due("step() with mask " + mask, x.step(), 2);
            Due.same("the lesser row with mask " + mask, Due.rows(x, 1).get(0),
                List.of(0, bits[1], bits[2]));
            Due.same("the greater row with mask " + mask, Due.rows(x, 1).get(1),
                List.of(15 * bits[0], 255 * bits[1], 255 * bits[2]));
        }
    }

    private static void projectionComesLast() {
        String[] want = {"", "3,0,0 4,0,0", "0,3,0 0,5,0", "3,5,0 4,3,0", "0,0,0 0,0,0", "3,0,0 4,0,0",
            "0,3,0 0,5,0", "3,5,0 4,3,0"};
        for (int mask = 1; mask <= 7; mask++) {
            ContinuousQuery x = new ContinuousQuery(4);
            x.setJoin(1);
            x.setAggregate(2, 2);
            x.setProject(mask);
            x.compile();
            x.arrive(0, 3, 9);
            x.arrive(0, 4, 9);
            x.arrive(1, 4, 3);
            x.arrive(1, 3, 4);
            x.arrive(1, 3, 1);
            x.step();
            Due.rowsAre("SUM 2 with mask " + mask, x, 1, want[mask]);
        }
    }

    // Row (1, 0, 0) is in one relation a times and in the next one b times, beside rows that stay.
    private static void multiplicities(int output) {
        fullRelations(output);
        for (int a = 0; a <= 10; a++) {
            for (int b = 0; b <= 10; b++) {
                ContinuousQuery x = new ContinuousQuery(12);
                x.setWindow(0, Edge.RANGE, 1);
                x.setOutput(output);
                x.compile();
                copies(x, a);
                x.step();
                copies(x, b);
                int times = output == 1 ? Math.max(0, b - a) : output == 2 ? Math.max(0, a - b) : b;
                List<List<Integer>> want = new ArrayList<>();
                for (int i = 0; i < times; i++) {
                    want.add(List.of(1, 0, 0));
                }
                if (output == 3) {
                    want.add(0, List.of(0, 9, 0));
                    want.add(List.of(2, 0, 0));
                }
                Due.due(a + " copies, then " + b, x.step(), want.size());
                Due.same("the output of " + a + " copies, then " + b, Due.rows(x, 0), want);
                Due.due("the relation", x.info(3), b + 2);
            }
        }
    }

    // No row of a full relation is in the next one, be that greater, lesser or empty, or all are.
    private static void fullRelations(int output) {
        ContinuousQuery x = new ContinuousQuery(12);
        x.setJoin(1);
        x.setWindow(0, Edge.RANGE, 1);
        x.setWindow(1, Edge.RANGE, 1);
        x.setOutput(output);
        x.compile();
        int previous = -1;
        for (int key : new int[] {7, 15, 0, -1, 15, -1, 0, 7, 7, 7, 15, 15}) {
            for (int i = 0; i < 12 && key >= 0; i++) {
                x.arrive(0, key, 255);
                x.arrive(1, key, 255);
            }
            int changed = key == previous ? -1 : output == 1 ? key : previous;
            int emitted = output == 3 ? key : changed;
            Due.due("a relation of key " + key, x.step(), emitted < 0 ? 0 : 144);
            for (List<Integer> row : Due.rows(x, 0)) {
                Due.same("a row emitted", row, List.of(emitted, 255, 255));
            }
            previous = key;
        }
    }

    private static void copies(ContinuousQuery x, int count) {
        x.arrive(0, 2, 0);
        for (int i = 0; i < count; i++) {
            x.arrive(0, 1, 0);
        }
        x.arrive(0, 0, 9);
    }

    private static void listsAreSorted() {
        for (int output = 1; output <= 3; output++) {
            ContinuousQuery x = new ContinuousQuery(12);
            x.setJoin(1);
            x.setWindow(0, Edge.RANGE, 1);
            x.setOutput(output);
            x.compile();
            int[][] tuples = {{15, 0}, {0, 255}, {0, 128}, {15, 255}, {0, 127}, {8, 16}, {7, 255}, {0, 0}, {15, 0},
                {8, 15}, {0, 255}};
            for (int[] tuple : tuples) {
                x.arrive(0, tuple[0], tuple[1]);
                x.arrive(1, tuple[0], tuple[1]);
            }
            x.step();
            isSorted(x, 1, 39);
            isSorted(x, 0, output == 2 ? 0 : 39);
            x.step();
            isSorted(x, 0, output == 2 ? 39 : 0);
        }
        fullListIsSorted();
    }

    // As many rows as there can be, the greatest ones made first.
    private static void fullListIsSorted() {
        for (int output = 1; output <= 3; output++) {
            ContinuousQuery x = new ContinuousQuery(12);
            x.setJoin(1);
            x.setWindow(1, Edge.RANGE, 1);
            x.setOutput(output);
            x.compile();
            for (int i = 11; i >= 0; i--) {
                x.arrive(0, 15, 20 * i);
                x.arrive(1, 15, 23 * i);
            }
            x.step();
            isFullAndSorted(x, 1);
            if (output == 2) {
                x.step();
            }
            isFullAndSorted(x, 0);
        }
    }

    private static void isFullAndSorted(ContinuousQuery x, int which) {
        List<List<Integer>> want = new ArrayList<>();
        for (int i = 0; i < 144; i++) {
            want.add(List.of(15, i / 12 * 20, i % 12 * 23));
        }
        Due.same("list " + which + " of 144 rows", Due.rows(x, which), want);
    }

    private static void isSorted(ContinuousQuery x, int which, int count) {
        List<List<Integer>> rows = Due.rows(x, which);
        Due.due("rows of list " + which, rows.size(), count);
        List<List<Integer>> sorted = new ArrayList<>(rows);
        sorted.sort((a, b) -> {
            for (int col = 0; col < 2; col++) {
                if (!a.get(col).equals(b.get(col))) {
                    return a.get(col) - b.get(col);
                }
            }
            return a.get(2) - b.get(2);
        });
        Due.same("list " + which, rows, sorted);
    }

    private static void firstStepHasNoPast() {
        for (int output = 1; output <= 3; output++) {
            ContinuousQuery x = new ContinuousQuery(4);
            for (int run = 0; run < 3; run++) {
                x.setOutput(output);
                Due.due("compile()", x.compile(), 0);
                Edge.arrivals(x, 0, 3);
                Due.due("the first step of run " + run, x.step(), output == 2 ? 0 : 3);
                Due.due("the second step of run " + run, x.step(), output == 3 ? 3 : 0);
                x.reset();
            }
        }
    }

    private static void deletionsPassThrough() {
        ContinuousQuery x = new ContinuousQuery(4);
        x.setJoin(1);
        x.setWindow(0, Edge.RANGE, 2);
        x.setWindow(1, Edge.ROWS, 1);
        x.setAggregate(2, 1);
        x.setOutput(2);
        x.compile();
        x.arrive(0, 5, 10);
        x.arrive(1, 5, 1);
        Due.due("step at 0", x.step(), 0);
        x.arrive(0, 5, 20);
        x.step();
        Due.rowsAre("a sum that grew", x, 0, "5,10,0");
        x.step();
        Due.rowsAre("after expiry in S0", x, 0, "5,30,0");
        Due.rowsAre("the relation after expiry", x, 1, "5,20,0");
        x.arrive(0, 5, 40);
        x.arrive(1, 6, 1);
        x.step();
        Due.rowsAre("after eviction in S1", x, 0, "5,20,0");
        Due.rowsAre("the relation after eviction", x, 1, "");
    }
}
