import java.util.List;

/** Promises 9 and 10: compile and arrive. */
public final class RunningTest {
    private static final int[] FAR = {
        Integer.MIN_VALUE, -65536, -65535, -257, -256, -255, -2, -1,
        256, 257, 65536, 65537, Integer.MAX_VALUE};

    public static void main(String[] args) {
        compileStartsARunAndKeepsTheClauses();
        compileRefusesASumOverTheUnusedStream();
        compileIsRefusedWhileRunning();
        arriveNeedsARun();
        wrongTuplesAreRefused();
        testsStandInTheirOrder();
        rangeStoreFillsUp();
        rowsStoreDropsItsOldest();
        storesDoNotTouchEachOther();
        arriveLeavesTheRowListsAlone();
        Due.end();
    }

    private static void compileStartsARunAndKeepsTheClauses() {
        ContinuousQuery x = new ContinuousQuery(6);
        x.setWindow(0, 1, 64);
        x.setWindow(1, 2, 3);
        x.setFilter(0, 1, 4, -9);
        x.setFilter(1, 0, 2, 15);
        x.setJoin(1);
        x.setProject(6);
        x.setAggregate(2, 2);
        x.setOutput(2);
        int[] want = Due.infos(x);
        want[1] = 1;
        Due.due("compile()", x.compile(), 0);
        Due.infosAre("after compile", x, want);
        Due.due("row(0, 0, 0)", x.row(0, 0, 0), -1);
        Due.due("row(1, 0, 0)", x.row(1, 0, 0), -1);
        Due.due("stored(0, 0)", x.stored(0, 0), -1);
        Due.due("stored(1, 0)", x.stored(1, 0), -1);
    }

    private static void compileRefusesASumOverTheUnusedStream() {
        ContinuousQuery x = new ContinuousQuery(6);
        x.setAggregate(2, 2);
        Due.refused("compile() of SUM 2 without join", x, -4, () -> x.compile());
        Due.due("arrive after the refusal", x.arrive(0, 1, 1), -1);
        Due.due("setJoin(1) after the refusal", x.setJoin(1), 0);
        Due.due("compile() with join", x.compile(), 0);

        ContinuousQuery y = new ContinuousQuery(6);
        y.setAggregate(2, 2);
        y.setJoin(1);
        y.setJoin(0);
        Due.refused("compile() with join off again", y, -4, () -> y.compile());
        Due.due("setAggregate(2, 1)", y.setAggregate(2, 1), 0);
        Due.due("compile() of SUM 1 without join", y.compile(), 0);

        ContinuousQuery z = new ContinuousQuery(6);
        z.setAggregate(2, 2);
        z.setAggregate(1, 2);
        Due.due("compile() of COUNT without join", z.compile(), 0);
    }

    private static void compileIsRefusedWhileRunning() {
        ContinuousQuery x = new ContinuousQuery(6);
        x.compile();
        x.arrive(0, 1, 1);
        x.step();
        x.arrive(0, 1, 2);
        Due.refused("compile() while running", x, -1, () -> x.compile());
    }

    private static void arriveNeedsARun() {
        ContinuousQuery x = new ContinuousQuery(6);
        Due.refused("arrive(0, 1, 1) in CONFIG", x, -1, () -> x.arrive(0, 1, 1));
        Due.refused("arrive(2, 16, 256) in CONFIG", x, -1, () -> x.arrive(2, 16, 256));
        Due.refused("arrive(1, 1, 1) in CONFIG", x, -1, () -> x.arrive(1, 1, 1));
    }

    private static void wrongTuplesAreRefused() {
        ContinuousQuery x = new ContinuousQuery(2);
        x.setJoin(1);
        x.setWindow(0, 1, 4);
        x.compile();
        for (int stream = 0; stream <= 1; stream++) {
            refusesTuple(x, stream, 16, 0, -2);
            refusesTuple(x, stream, 0, 256, -2);
            for (int far : FAR) {
                refusesTuple(x, stream, far, 0, -2);
                refusesTuple(x, stream, 0, far, -2);
            }
        }
        refusesTuple(x, 2, 0, 0, -2);
        for (int far : FAR) {
            refusesTuple(x, far, 0, 0, -2);
        }
        for (int stream = 0; stream <= 1; stream++) {
            Due.due("arrive(" + stream + ", 0, 0)", x.arrive(stream, 0, 0), 0);
            Due.due("arrive(" + stream + ", 15, 255)", x.arrive(stream, 15, 255), 0);
            Due.same("store " + stream, Due.store(x, stream), List.of(0, 4095));
        }
    }

    private static void refusesTuple(ContinuousQuery x, int stream, int key, int value, int want) {
        Due.refused("arrive(" + stream + ", " + key + ", " + value + ")", x, want,
            () -> x.arrive(stream, key, value));
    }

    private static void testsStandInTheirOrder() {
        ContinuousQuery x = new ContinuousQuery(2);
        x.setWindow(0, 1, 1);
        x.setWindow(1, 1, 1);
        x.compile();
        refusesTuple(x, 1, 0, 0, -5);
        refusesTuple(x, 1, 16, 256, -5);
        refusesTuple(x, 2, 16, 256, -2);
        x.arrive(0, 0, 0);
        x.arrive(0, 0, 0);
        refusesTuple(x, 0, 0, 0, -3);
        refusesTuple(x, 0, 16, 0, -2);
        refusesTuple(x, 0, 0, 256, -2);
        refusesTuple(x, 1, 0, 0, -5);
    }

    private static void rangeStoreFillsUp() {
        for (int cap = 2; cap <= 12; cap++) {
            for (int stream = 0; stream <= 1; stream++) {
                ContinuousQuery x = new ContinuousQuery(cap);
                x.setJoin(1);
                x.setWindow(stream, 1, 1);
                x.compile();
                int s = stream;
                for (int i = 0; i < cap; i++) {
                    Due.due("tuple " + i + " of cap " + cap, x.arrive(s, 1, i), 0);
                    Due.due("held", x.info(4 + s), i + 1);
                }
                Due.refused("a tuple above cap " + cap, x, -3, () -> x.arrive(s, 1, 99));
                Due.due("step()", x.step(), 0);
                Due.due("held after the step", x.info(4 + s), 0);
                Due.due("a tuple at the next instant", x.arrive(s, 1, 99), 0);
            }
        }
    }

    private static void rowsStoreDropsItsOldest() {
        for (int size = 1; size <= 12; size++) {
            for (int stream = 0; stream <= 1; stream++) {
                ContinuousQuery x = new ContinuousQuery(12);
                x.setJoin(1);
                x.setWindow(stream, 2, size);
                x.compile();
                for (int i = 0; i < 30; i++) {
                    Due.due("tuple " + i + " of ROWS " + size, x.arrive(stream, i % 16, i), 0);
                    int held = Math.min(size, i + 1);
                    Due.due("held", x.info(4 + stream), held);
                    Due.due("newest", x.stored(stream, held - 1), i % 16 * 256 + i);
                    int oldest = i - held + 1;
                    Due.due("oldest", x.stored(stream, 0), oldest % 16 * 256 + oldest);
                }
            }
        }
    }

    private static void storesDoNotTouchEachOther() {
        ContinuousQuery x = new ContinuousQuery(12);
        x.setJoin(1);
        x.compile();
        for (int i = 0; i < 20; i++) {
            List<Integer> other = Due.store(x, 1);
            x.arrive(0, 15, 100 + i);
            Due.same("store 1 after a tuple for S0", Due.store(x, 1), other);
            other = Due.store(x, 0);
            x.arrive(1, 14, 200 + i);
            Due.same("store 0 after a tuple for S1", Due.store(x, 0), other);
        }
    }

    private static void arriveLeavesTheRowListsAlone() {
        ContinuousQuery x = new ContinuousQuery(3);
        x.compile();
        x.arrive(0, 4, 40);
        x.step();
        int[] want = Due.infos(x);
        for (int i = 0; i < 5; i++) {
            Due.due("arrive(0, 5, 50)", x.arrive(0, 5, 50), 0);
            want[4] = Math.min(3, i + 2);
            Due.infosAre("after tuple " + i, x, want);
            Due.rowsAre("after tuple " + i, x, 0, "4,40,0");
            Due.rowsAre("after tuple " + i, x, 1, "4,40,0");
        }
        Due.due("instant of the newest", x.stored(0, 2), 4096 + 5 * 256 + 50);
    }
}
