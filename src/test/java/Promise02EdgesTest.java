/** Promise 2, reset: each sentence that names a boundary case. */
public final class Promise02EdgesTest {
    public static void main(String[] args) {
        Edge.holds("`reset()` is always allowed, in either phase.", Promise02EdgesTest::isAlwaysAllowed);
        Edge.holds("It restores all defaults of Promise 1, using the cap of this object, which is kept.",
            Promise02EdgesTest::keepsTheClampedCap);
        Edge.holds("That means phase CONFIG, now 0, both stores empty, output and relation empty, and every"
            + " clause back to its default.", Promise02EdgesTest::leavesNothingBehind);
        Edge.holds("It answers OK.", Promise02EdgesTest::answersOk);
        Due.end();
    }

    private static void isAlwaysAllowed() {
        Edge.allStates().forEach((state, maker) -> {
            ContinuousQuery x = maker.get();
            Due.due("reset() on " + state, x.reset(), 0);
            Due.due("the phase after it", x.info(1), 0);
            Due.due("setJoin(1) after it", x.setJoin(1), 0);
        });
    }

    private static void answersOk() {
        Edge.allStates().forEach((state, maker) -> {
            ContinuousQuery x = maker.get();
            for (int time = 1; time <= 3; time++) {
                Due.due("reset() number " + time + " on " + state, x.reset(), 0);
            }
            x.compile();
            x.compile();
            x.arrive(5, 5, 5);
            Due.due("reset() after refused calls", x.reset(), 0);
        });
    }

    private static void keepsTheClampedCap() {
        for (int cap : new int[] {Edge.MIN, -1, 0, 1, 2, 3, 11, 12, 13, 268, Edge.MAX}) {
            int kept = Math.max(2, Math.min(12, cap));
            ContinuousQuery x = Edge.everyClauseSet(cap);
            x.reset();
            Due.infosAre("cap " + cap + ", reset in CONFIG", x, Due.defaults(kept));
            x.setWindow(0, Edge.ROWS, 1);
            x.compile();
            x.arrive(0, 1, 1);
            x.step();
            x.reset();
            Due.infosAre("cap " + cap + ", reset while running", x, Due.defaults(kept));
            x.setWindow(0, Edge.RANGE, 1);
            x.compile();
            Edge.arrivals(x, 0, kept);
            Due.due("a tuple too many for cap " + cap, x.arrive(0, 1, 1), Edge.FULL);
        }
    }

    private static void leavesNothingBehind() {
        Edge.allStates().forEach((state, maker) -> {
            ContinuousQuery x = maker.get();
            ContinuousQuery fresh = new ContinuousQuery(x.info(21));
            x.reset();
            Due.same("the state after reset() on " + state, Due.state(x), Due.state(fresh));
            Due.infosAre("reset() on " + state, x, Due.defaults(x.info(21)));
            for (int i = 0; i < 12; i++) {
                Due.due("stored(0, " + i + ")", x.stored(0, i), -1);
                Due.due("stored(1, " + i + ")", x.stored(1, i), -1);
                Due.due("row(0, " + i + ", 0)", x.row(0, i, 0), -1);
                Due.due("row(1, " + i + ", 0)", x.row(1, i, 0), -1);
            }
            Due.same("what follows reset() on " + state, Edge.whatFollows(x), Edge.whatFollows(fresh));
        });
    }
}
