import java.util.List;

/** Promise 13, row: each sentence that names a boundary case. */
public final class Promise13EdgesTest {
    public static void main(String[] args) {
        Edge.holds("which ROW_OUT selects the rows emitted by the last step", Promise13EdgesTest::outRows);
        Edge.holds("which ROW_REL selects R of the instant closed by the last step.",
            Promise13EdgesTest::relationRows);
        Edge.holds("i counts from 0 in the sorted order, and col is 0..2.",
            Promise13EdgesTest::firstAndLastRowAndColumn);
        Edge.holds("The call answers the value of column col of row i of that list.",
            Promise13EdgesTest::everyRowAndColumn);
        Edge.holds("which is neither 0 nor 1", Promise13EdgesTest::wrongList);
        Edge.holds("i is outside 0..count-1, where count is info(INFO_OUT_COUNT) or info(INFO_REL_COUNT)"
            + " respectively", Promise13EdgesTest::rowOutside);
        Edge.holds("including any i when the list is empty", Promise13EdgesTest::emptyList);
        Edge.holds("col is outside 0..2.", Promise13EdgesTest::columnOutside);
        Edge.holds("row never changes anything.", Promise13EdgesTest::changesNothing);
        Due.end();
    }

    /** Both stores full of equal keys, 144 rows, and a relation that has one row more than the output. */
    private static ContinuousQuery largest() {
        ContinuousQuery x = new ContinuousQuery(12);
        x.setJoin(1);
        x.compile();
        x.arrive(0, 15, 0);
        x.arrive(1, 15, 0);
        x.step();
        for (int i = 1; i < 12; i++) {
            x.arrive(0, 15, 20 * i);
            x.arrive(1, 15, 10 * i);
        }
        Due.due("step() of a full join", x.step(), 143);
        return x;
    }

    private static void outRows() {
        ContinuousQuery x = largest();
        Due.due("info(2)", x.info(2), 143);
        Due.same("the first row", Due.rows(x, 0).get(0), List.of(15, 0, 10));
        Due.same("the last row", Due.rows(x, 0).get(142), List.of(15, 220, 110));
        x.step();
        Due.due("row(0, 0, 0) after a step that emits nothing", x.row(0, 0, 0), -1);
    }

    private static void relationRows() {
        ContinuousQuery x = largest();
        x.step();
        Due.due("info(3)", x.info(3), 144);
        for (int i = 0; i < 144; i++) {
            List<Integer> want = List.of(15, i / 12 * 20, i % 12 * 10);
            Due.same("row " + i, Due.rows(x, 1).get(i), want);
        }
        x.arrive(0, 1, 1);
        Due.due("row(1, 0, 0) after a tuple more", x.row(1, 0, 0), 15);
        Due.due("row(1, 143, 1) after a tuple more", x.row(1, 143, 1), 220);
    }

    private static void firstAndLastRowAndColumn() {
        ContinuousQuery x = largest();
        Due.due("row(0, 0, 0)", x.row(0, 0, 0), 15);
        Due.due("row(0, 0, 2)", x.row(0, 0, 2), 10);
        Due.due("row(0, 142, 0)", x.row(0, 142, 0), 15);
        Due.due("row(0, 142, 1)", x.row(0, 142, 1), 220);
        Due.due("row(0, 142, 2)", x.row(0, 142, 2), 110);
        Due.due("row(1, 0, 2)", x.row(1, 0, 2), 0);
        Due.due("row(1, 143, 0)", x.row(1, 143, 0), 15);
        Due.due("row(1, 143, 2)", x.row(1, 143, 2), 110);
    }

    // The relation has the rows of two keys, the output those of the key that is new.
    private static void everyRowAndColumn() {
        int[][] relation = {{2, 7, 9}, {2, 7, 200}, {11, 0, 255}, {11, 130, 255}};
        ContinuousQuery x = new ContinuousQuery(4);
        x.setJoin(1);
        x.compile();
        x.arrive(0, 2, 7);
        x.arrive(1, 2, 200);
        x.arrive(1, 2, 9);
        x.step();
        x.arrive(0, 11, 130);
        x.arrive(0, 11, 0);
        x.arrive(1, 11, 255);
        Due.due("step()", x.step(), 2);
        for (int col = 0; col <= 2; col++) {
            for (int i = 0; i < 4; i++) {
                Due.due("row(1, " + i + ", " + col + ")", x.row(1, i, col), relation[i][col]);
            }
            for (int i = 0; i < 2; i++) {
                Due.due("row(0, " + i + ", " + col + ")", x.row(0, i, col), relation[2 + i][col]);
            }
        }
    }

    private static void wrongList() {
        ContinuousQuery x = largest();
        for (int which : Edge.outside(0, 1)) {
            for (int col = 0; col <= 2; col++) {
                Due.due("row(" + which + ", 0, " + col + ")", x.row(which, 0, col), -1);
                Due.due("row(" + which + ", 142, " + col + ")", x.row(which, 142, col), -1);
            }
        }
    }

    private static void rowOutside() {
        answersMinus1Outside(largest(), 143, 144);
        answersMinus1Outside(Edge.fullRows(), 6, 6);
        answersMinus1Outside(Edge.fullRanges(), 2, 2);
        ContinuousQuery one = new ContinuousQuery(2);
        one.compile();
        one.arrive(0, 3, 3);
        one.step();
        answersMinus1Outside(one, 1, 1);
        ContinuousQuery emitsNothing = largest();
        emitsNothing.step();
        answersMinus1Outside(emitsNothing, 0, 144);
    }

    private static void answersMinus1Outside(ContinuousQuery x, int outCount, int relationCount) {
        int[] counts = {outCount, relationCount};
        for (int which = 0; which <= 1; which++) {
            Due.due("count of list " + which, x.info(2 + which), counts[which]);
            for (int col = 0; col <= 2; col++) {
                for (int i = 0; i < counts[which]; i++) {
                    boolean isRow = x.row(which, i, col) >= 0;
                    Due.same("a row " + i + " of list " + which, isRow, true);
                }
                for (int i : Edge.outside(0, counts[which] - 1)) {
                    Due.due("row(" + which + ", " + i + ", " + col + ")", x.row(which, i, col), -1);
                }
                for (int i = counts[which]; i < 300; i++) {
                    Due.due("row(" + which + ", " + i + ", " + col + ")", x.row(which, i, col), -1);
                }
            }
        }
    }

    private static void emptyList() {
        Edge.allStates().forEach((state, maker) -> {
            ContinuousQuery x = maker.get();
            x.reset();
            answersMinus1Outside(x, 0, 0);
            x.compile();
            answersMinus1Outside(x, 0, 0);
            x.step();
            answersMinus1Outside(x, 0, 0);
        });
    }

    private static void columnOutside() {
        ContinuousQuery x = largest();
        for (int col : Edge.outside(0, 2)) {
            for (int which = 0; which <= 1; which++) {
                Due.due("row(" + which + ", 0, " + col + ")", x.row(which, 0, col), -1);
                Due.due("row(" + which + ", 142, " + col + ")", x.row(which, 142, col), -1);
            }
        }
    }

    private static void changesNothing() {
        Edge.allStates().forEach((state, maker) -> {
            ContinuousQuery sample = maker.get();
            for (int which = -1; which <= 2; which++) {
                for (int i : new int[] {Edge.MIN, -1, 0, 1, 5, 6, Edge.MAX}) {
                    for (int col = -1; col <= 3; col++) {
                        int w = which;
                        int c = col;
                        Edge.changesNothing("row(" + w + ", " + i + ", " + c + ") on " + state,
                            sample.row(w, i, c), maker, x -> x.row(w, i, c));
                    }
                }
            }
        });
    }
}
