/** Promise 5, setJoin: each sentence that names a boundary case. */
public final class Promise05EdgesTest {
    public static void main(String[] args) {
        Edge.holds("phase not CONFIG -> ERR_PHASE", Promise05EdgesTest::runningIsRefused);
        Edge.holds("on not 0 or 1 -> ERR_ARG", Promise05EdgesTest::wrongNumberIsRefused);
        Edge.holds("otherwise it stores on and answers OK.", Promise05EdgesTest::bothAreStored);
        Edge.holds("With 1 the query is an equi-join of S0 and S1 on key.", Promise05EdgesTest::with1BothAreUsed);
        Edge.holds("With 0 the query uses S0 alone, and S1 is unused.", Promise05EdgesTest::with0S1IsUnused);
        Edge.holds("Nothing else changes.", Promise05EdgesTest::nothingElseChanges);
        Due.end();
    }

    private static void runningIsRefused() {
        for (int on = -1; on <= 2; on++) {
            int given = on;
            Edge.refused("setJoin(" + on + ")", Edge.PHASE, Edge.running(), x -> x.setJoin(given));
        }
    }

    private static void wrongNumberIsRefused() {
        for (int on : Edge.outside(0, 1)) {
            Edge.refused("setJoin(" + on + ")", Edge.ARG, Edge.config(), x -> x.setJoin(on));
        }
    }

    private static void bothAreStored() {
        ContinuousQuery x = new ContinuousQuery(3);
        for (int on : new int[] {0, 1, 1, 0, 0, 1}) {
            Due.due("setJoin(" + on + ")", x.setJoin(on), 0);
            Due.due("info(16)", x.info(16), on);
        }
    }

    private static void with1BothAreUsed() {
        ContinuousQuery x = new ContinuousQuery(3);
        x.setJoin(1);
        x.compile();
        x.arrive(0, 0, 1);
        x.arrive(0, 15, 2);
        Due.due("the step with S1 empty", x.step(), 0);
        Due.due("arrive(1, 15, 3)", x.arrive(1, 15, 3), 0);
        Due.due("arrive(1, 14, 4)", x.arrive(1, 14, 4), 0);
        Due.due("the step with S1", x.step(), 1);
        Due.rowsAre("the pair of equal keys", x, 1, "15,2,3");
    }

    private static void with0S1IsUnused() {
        ContinuousQuery x = new ContinuousQuery(3);
        x.setJoin(1);
        x.setJoin(0);
        x.setFilter(1, 0, 1, 99);
        x.compile();
        x.arrive(0, 0, 1);
        x.arrive(0, 15, 2);
        Due.due("arrive(1, 15, 3)", x.arrive(1, 15, 3), Edge.UNUSED);
        Due.due("held in S1", x.info(5), 0);
        Due.due("step()", x.step(), 2);
        Due.rowsAre("S0 alone", x, 1, "0,1,0 15,2,0");
    }

    private static void nothingElseChanges() {
        Edge.config().forEach((state, maker) -> {
            ContinuousQuery x = maker.get();
            for (int on : new int[] {0, 1, 0}) {
                int[] before = Due.infos(x);
                x.setJoin(on);
                Edge.changedOnly("setJoin(" + on + ") on " + state, x, before, 16, on);
            }
        });
    }
}
