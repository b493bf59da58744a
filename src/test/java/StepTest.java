import java.util.List;

/** Promise 11: step and the evaluation of the query, told by hand. */
public final class StepTest {
    public static void main(String[] args) {
        stepNeedsARun();
        rangeWindowSlides();
        rowsWindowStaysOnAStep();
        windowsOfTheStreamsSlideApart();
        filtersPassTheRightTuples();
        filteredOutTuplesUseRowsPlaces();
        joinPairsEqualKeys();
        fullJoinHas144Rows();
        countAndSumGroupByKey();
        aggregateSeesColumnsThatProjectionHides();
        projectionKeepsDuplicates();
        outputKindsDifferAsMultisets();
        rowsAreSortedByAllColumns();
        evictionPassesThroughJoinAndGrouping();
        Due.end();
    }

    private static void stepNeedsARun() {
        ContinuousQuery x = new ContinuousQuery(3);
        Due.refused("step() in CONFIG", x, -1, () -> x.step());
    }

    private static void rangeWindowSlides() {
        for (int range = 1; range <= 64; range++) {
            ContinuousQuery x = new ContinuousQuery(3);
            x.setWindow(0, 1, range);
            x.setOutput(2);
            x.compile();
            x.step();
            x.arrive(0, 2, 20);
            for (int t = 1; t <= range; t++) {
                Due.due("RANGE " + range + ", step at " + t, x.step(), 0);
                Due.due("RANGE " + range + ", rows at " + t, x.info(3), 1);
                Due.due("RANGE " + range + ", held after " + t, x.info(4), t < range ? 1 : 0);
                Due.due("RANGE " + range + ", now after " + t, x.info(0), t + 1);
            }
            Due.due("RANGE " + range + ", the step that deletes", x.step(), 1);
            Due.rowsAre("RANGE " + range, x, 0, "2,20,0");
            Due.rowsAre("RANGE " + range, x, 1, "");
            Due.due("RANGE " + range + ", the step after", x.step(), 0);
        }
    }

    private static void rowsWindowStaysOnAStep() {
        ContinuousQuery x = new ContinuousQuery(3);
        x.setOutput(3);
        x.compile();
        x.arrive(0, 2, 20);
        x.arrive(0, 1, 10);
        for (int t = 0; t < 200; t++) {
            Due.due("step at " + t, x.step(), 2);
            Due.same("store at " + t, Due.store(x, 0), List.of(532, 266));
        }
    }

    private static void windowsOfTheStreamsSlideApart() {
        ContinuousQuery x = new ContinuousQuery(4);
        x.setJoin(1);
        x.setWindow(0, 1, 3);
        x.setWindow(1, 1, 1);
        x.setOutput(3);
        x.compile();
        x.arrive(0, 1, 10);
        x.arrive(1, 1, 20);
        Due.due("step at 0", x.step(), 1);
        Due.same("store 0", Due.store(x, 0), List.of(266));
        Due.same("store 1", Due.store(x, 1), List.of());
        x.arrive(0, 1, 11);
        x.arrive(1, 1, 21);
        Due.due("step at 1", x.step(), 2);
        Due.rowsAre("at 1", x, 0, "1,10,21 1,11,21");
        Due.due("step at 2", x.step(), 0);
        Due.same("store 0 after three steps", Due.store(x, 0), List.of(4096 + 267));
    }

    private static void filtersPassTheRightTuples() {
        filtered(0, 0, 5, "4,6,0 5,5,0 6,4,0");
        filtered(0, 1, 5, "5,5,0");
        filtered(0, 2, 5, "4,6,0 6,4,0");
        filtered(0, 3, 5, "4,6,0");
        filtered(0, 4, 5, "6,4,0");
        filtered(1, 1, 4, "6,4,0");
        filtered(1, 2, 4, "4,6,0 5,5,0");
        filtered(1, 3, 6, "5,5,0 6,4,0");
        filtered(1, 4, 4, "4,6,0 5,5,0");
        filtered(1, 1, 260, "");
        filtered(1, 4, Integer.MIN_VALUE, "4,6,0 5,5,0 6,4,0");
        filtered(1, 4, Integer.MAX_VALUE, "");
        filtered(1, 3, Integer.MAX_VALUE, "4,6,0 5,5,0 6,4,0");
        filtered(1, 3, Integer.MIN_VALUE, "");
        filtered(0, 2, -1, "4,6,0 5,5,0 6,4,0");
    }

    private static void filtered(int field, int op, int constant, String want) {
        ContinuousQuery x = new ContinuousQuery(3);
        x.setFilter(0, field, op, constant);
        x.setFilter(1, 1, 1, 77);
        x.compile();
        x.arrive(0, 6, 4);
        x.arrive(0, 5, 5);
        x.arrive(0, 4, 6);
        x.step();
        Due.rowsAre("filter " + field + " " + op + " " + constant, x, 1, want);
    }

    private static void filteredOutTuplesUseRowsPlaces() {
        ContinuousQuery x = new ContinuousQuery(4);
        x.setWindow(0, 2, 2);
        x.setFilter(0, 1, 4, 100);
        x.setOutput(2);
        x.compile();
        x.arrive(0, 1, 200);
        x.arrive(0, 2, 50);
        Due.due("step at 0", x.step(), 0);
        Due.rowsAre("at 0", x, 1, "1,200,0");
        x.arrive(0, 3, 60);
        Due.due("step at 1", x.step(), 1);
        Due.rowsAre("at 1", x, 0, "1,200,0");
        Due.due("held", x.info(4), 2);
    }

    private static void joinPairsEqualKeys() {
        ContinuousQuery x = new ContinuousQuery(6);
        x.setJoin(1);
        x.setFilter(0, 1, 2, 9);
        x.setFilter(1, 1, 3, 30);
        x.compile();
        x.arrive(0, 3, 8);
        x.arrive(0, 3, 9);
        x.arrive(0, 2, 7);
        x.arrive(0, 3, 8);
        x.arrive(0, 5, 1);
        x.arrive(1, 3, 20);
        x.arrive(1, 3, 10);
        x.arrive(1, 2, 29);
        x.arrive(1, 2, 30);
        x.arrive(1, 4, 1);
        Due.due("step()", x.step(), 5);
        Due.rowsAre("join", x, 0, "2,7,29 3,8,10 3,8,10 3,8,20 3,8,20");
        Due.rowsAre("join", x, 1, "2,7,29 3,8,10 3,8,10 3,8,20 3,8,20");
    }

    private static ContinuousQuery fullStores(int aggregate, int column) {
        ContinuousQuery x = new ContinuousQuery(12);
        x.setJoin(1);
        x.setWindow(0, 1, 1);
        x.setAggregate(aggregate, column);
        x.compile();
        for (int i = 0; i < 12; i++) {
            x.arrive(0, 15, 255);
            x.arrive(1, 15, 255);
        }
        return x;
    }

    private static void fullJoinHas144Rows() {
        ContinuousQuery x = fullStores(0, 0);
        Due.due("step() of a full join", x.step(), 144);
        for (int i = 0; i < 144; i++) {
            for (int col = 0; col < 3; col++) {
                Due.due("row(0, " + i + ", " + col + ")", x.row(0, i, col), col == 0 ? 15 : 255);
                Due.due("row(1, " + i + ", " + col + ")", x.row(1, i, col), col == 0 ? 15 : 255);
            }
        }
        Due.due("row(0, 144, 0)", x.row(0, 144, 0), -1);

        ContinuousQuery sum1 = fullStores(2, 1);
        sum1.step();
        Due.rowsAre("the greatest sum of column 1", sum1, 0, "15,36720,0");
        ContinuousQuery sum2 = fullStores(2, 2);
        sum2.step();
        Due.rowsAre("the greatest sum of column 2", sum2, 0, "15,36720,0");
        ContinuousQuery count = fullStores(1, 0);
        count.step();
        Due.rowsAre("the greatest count", count, 0, "15,144,0");
    }

    private static ContinuousQuery grouped(int join, int aggregate, int column, int mask) {
        ContinuousQuery x = new ContinuousQuery(6);
        x.setJoin(join);
        x.setAggregate(aggregate, column);
        x.setProject(mask);
        x.compile();
        x.arrive(0, 7, 100);
        x.arrive(0, 0, 0);
        x.arrive(0, 7, 200);
        x.arrive(0, 4, 5);
        x.arrive(1, 7, 1);
        x.arrive(1, 0, 9);
        x.arrive(1, 7, 2);
        x.arrive(1, 7, 2);
        x.step();
        return x;
    }

    private static void countAndSumGroupByKey() {
        Due.rowsAre("COUNT", grouped(0, 1, 0, 7), 1, "0,1,0 4,1,0 7,2,0");
        Due.rowsAre("SUM 1", grouped(0, 2, 1, 7), 1, "0,0,0 4,5,0 7,300,0");
        Due.rowsAre("COUNT of a join", grouped(1, 1, 0, 7), 1, "0,1,0 7,6,0");
        Due.rowsAre("SUM 1 of a join", grouped(1, 2, 1, 7), 1, "0,0,0 7,900,0");
        Due.rowsAre("SUM 2 of a join", grouped(1, 2, 2, 7), 1, "0,9,0 7,10,0");
    }

    private static void aggregateSeesColumnsThatProjectionHides() {
        Due.rowsAre("SUM 2, mask 2", grouped(1, 2, 2, 2), 1, "0,9,0 0,10,0");
        Due.rowsAre("COUNT, mask 2", grouped(0, 1, 0, 2), 1, "0,1,0 0,1,0 0,2,0");
        Due.rowsAre("COUNT, mask 1", grouped(0, 1, 0, 1), 1, "0,0,0 4,0,0 7,0,0");
        Due.rowsAre("COUNT, mask 4", grouped(0, 1, 0, 4), 1, "0,0,0 0,0,0 0,0,0");
    }

    private static void projectionKeepsDuplicates() {
        String[] want = {
            "",
            "1,0,0 2,0,0 2,0,0",
            "0,3,0 0,5,0 0,5,0",
            "1,5,0 2,3,0 2,5,0",
            "0,0,4 0,0,4 0,0,6",
            "1,0,6 2,0,4 2,0,4",
            "0,3,4 0,5,4 0,5,6",
            "1,5,6 2,3,4 2,5,4"};
        for (int mask = 1; mask <= 7; mask++) {
            ContinuousQuery x = new ContinuousQuery(4);
            x.setJoin(1);
            x.setProject(mask);
            x.compile();
            x.arrive(0, 2, 5);
            x.arrive(0, 2, 3);
            x.arrive(0, 1, 5);
            x.arrive(1, 2, 4);
            x.arrive(1, 1, 6);
            Due.due("step() with mask " + mask, x.step(), 3);
            Due.rowsAre("mask " + mask, x, 0, want[mask]);
            Due.rowsAre("mask " + mask, x, 1, want[mask]);
        }
    }

    private static void outputKindsDifferAsMultisets() {
        outputs(1, "1,1,0 1,1,0 3,3,0", "2,2,0", "3,3,0");
        outputs(2, "", "1,1,0", "1,1,0 2,2,0");
        outputs(3, "1,1,0 1,1,0 3,3,0", "1,1,0 2,2,0 3,3,0", "3,3,0 3,3,0");
    }

    // First a row that is doubled loses one copy (1 1 3, then 1 3 2 in ROWS 3); then, on a new
    // object, a row gains a second copy (1 2 3, then 3 9 3, the 9 filtered out).
    private static void outputs(int kind, String first, String second, String third) {
        ContinuousQuery x = new ContinuousQuery(5);
        x.setWindow(0, 2, 3);
        x.setOutput(kind);
        x.compile();
        arriveAll(x, 1, 1, 3);
        x.step();
        Due.rowsAre("output " + kind + " at 0", x, 0, first);
        arriveAll(x, 2);
        x.step();
        Due.rowsAre("output " + kind + " at 1", x, 0, second);
        Due.rowsAre("relation at 1", x, 1, "1,1,0 2,2,0 3,3,0");
        x = twoOfOneRow(kind);
        x.step();
        Due.rowsAre("output " + kind + " of a doubled row", x, 0, third);
        Due.rowsAre("relation of a doubled row", x, 1, "3,3,0 3,3,0");
        String unchanged = kind == 3 ? "3,3,0 3,3,0" : "";
        x.step();
        Due.rowsAre("output " + kind + " of an unchanged relation", x, 0, unchanged);
    }

    private static ContinuousQuery twoOfOneRow(int kind) {
        ContinuousQuery x = new ContinuousQuery(5);
        x.setWindow(0, 2, 3);
        x.setFilter(0, 0, 2, 9);
        x.setOutput(kind);
        x.compile();
        arriveAll(x, 1, 2, 3);
        x.step();
        arriveAll(x, 3, 9);
        x.arrive(0, 3, 3);
        return x;
    }

    private static void arriveAll(ContinuousQuery x, int... keys) {
        for (int key : keys) {
            Due.due("arrive(0, " + key + ", " + key + ")", x.arrive(0, key, key), 0);
        }
    }

    private static void rowsAreSortedByAllColumns() {
        ContinuousQuery x = new ContinuousQuery(12);
        x.setJoin(1);
        x.compile();
        int[] s0 = {9, 255, 9, 0, 10, 1, 1, 254, 0, 255, 9, 16, 0, 2};
        for (int i = 0; i < s0.length; i += 2) {
            x.arrive(0, s0[i], s0[i + 1]);
        }
        int[] s1 = {9, 255, 9, 0, 10, 0, 1, 1, 0, 128, 0, 127};
        for (int i = 0; i < s1.length; i += 2) {
            x.arrive(1, s1[i], s1[i + 1]);
        }
        String want = "0,2,127 0,2,128 0,255,127 0,255,128 1,254,1 9,0,0 9,0,255 9,16,0 9,16,255"
            + " 9,255,0 9,255,255 10,1,0";
        Due.due("step()", x.step(), 12);
        Due.rowsAre("sorted", x, 0, want);
        Due.rowsAre("sorted", x, 1, want);
    }

    private static void evictionPassesThroughJoinAndGrouping() {
        ContinuousQuery x = new ContinuousQuery(4);
        x.setJoin(1);
        x.setWindow(0, 1, 2);
        x.setWindow(1, 2, 1);
        x.setAggregate(2, 1);
        x.setOutput(2);
        x.compile();
        x.arrive(0, 5, 10);
        x.arrive(1, 5, 1);
        Due.due("step at 0", x.step(), 0);
        x.arrive(0, 5, 20);
        Due.due("step at 1", x.step(), 1);
        Due.rowsAre("at 1", x, 0, "5,10,0");
        Due.rowsAre("at 1", x, 1, "5,30,0");
        Due.due("step at 2", x.step(), 1);
        Due.rowsAre("at 2, after expiry", x, 0, "5,30,0");
        Due.rowsAre("at 2, after expiry", x, 1, "5,20,0");
        x.arrive(0, 5, 40);
        x.arrive(1, 6, 1);
        Due.due("step at 3", x.step(), 1);
        Due.rowsAre("at 3, after eviction", x, 0, "5,20,0");
        Due.rowsAre("at 3, after eviction", x, 1, "");
    }
}
