/** Promises 1 and 2: construction, defaults and reset. */
public final class DefaultsTest {
    public static void main(String[] args) {
        capIsClamped();
        newObjectHasTheDefaults();
        resetInConfigRestoresTheDefaults();
        resetWhileRunningRestoresTheDefaults();
        resetForgetsThePreviousRelation();
        objectsAreIndependent();
        Due.end();
    }

    private static void capIsClamped() {
        for (int cap = -20; cap <= 40; cap++) {
            ContinuousQuery x = new ContinuousQuery(cap);
            Due.due("cap " + cap + ": info(21)", x.info(21), clamped(cap));
        }
        for (int cap : new int[] {Integer.MIN_VALUE, Integer.MIN_VALUE + 1, -65534, 65538, 1 << 16,
                Integer.MAX_VALUE - 1, Integer.MAX_VALUE}) {
            ContinuousQuery x = new ContinuousQuery(cap);
            Due.due("cap " + cap + ": info(21)", x.info(21), clamped(cap));
        }
    }

    private static int clamped(int cap) {
        return Math.max(2, Math.min(12, cap));
    }

    private static void newObjectHasTheDefaults() {
        for (int cap : new int[] {Integer.MIN_VALUE, 0, 2, 3, 7, 11, 12, 13, Integer.MAX_VALUE}) {
            ContinuousQuery x = new ContinuousQuery(cap);
            isDefault("new object of cap " + cap, x, clamped(cap));
        }
    }

    private static void isDefault(String when, ContinuousQuery x, int cap) {
        Due.infosAre(when, x, Due.defaults(cap));
        Due.due(when + ": row(0, 0, 0)", x.row(0, 0, 0), -1);
        Due.due(when + ": row(1, 0, 0)", x.row(1, 0, 0), -1);
        Due.due(when + ": stored(0, 0)", x.stored(0, 0), -1);
        Due.due(when + ": stored(1, 0)", x.stored(1, 0), -1);
    }

    private static ContinuousQuery withEveryClauseSet(int cap) {
        ContinuousQuery x = new ContinuousQuery(cap);
        Due.due("setWindow(0, 1, 9)", x.setWindow(0, 1, 9), 0);
        Due.due("setWindow(1, 2, 1)", x.setWindow(1, 2, 1), 0);
        Due.due("setFilter(0, 1, 4, -3)", x.setFilter(0, 1, 4, -3), 0);
        Due.due("setFilter(1, 1, 2, 77)", x.setFilter(1, 1, 2, 77), 0);
        Due.due("setJoin(1)", x.setJoin(1), 0);
        Due.due("setProject(3)", x.setProject(3), 0);
        Due.due("setAggregate(2, 2)", x.setAggregate(2, 2), 0);
        Due.due("setOutput(3)", x.setOutput(3), 0);
        return x;
    }

    private static void resetInConfigRestoresTheDefaults() {
        ContinuousQuery x = withEveryClauseSet(5);
        Due.due("reset()", x.reset(), 0);
        isDefault("reset in CONFIG", x, 5);
        Due.due("reset() again", x.reset(), 0);
        isDefault("reset twice", x, 5);
    }

    private static void resetWhileRunningRestoresTheDefaults() {
        ContinuousQuery x = withEveryClauseSet(99);
        Due.due("compile()", x.compile(), 0);
        Due.due("arrive(0, 1, 2)", x.arrive(0, 1, 2), 0);
        Due.due("arrive(1, 1, 3)", x.arrive(1, 1, 3), 0);
        Due.due("step()", x.step(), 1);
        Due.due("reset()", x.reset(), 0);
        isDefault("reset while running", x, 12);
        Due.due("arrive after reset", x.arrive(0, 1, 2), -1);
        Due.due("step after reset", x.step(), -1);
        Due.due("setWindow after reset", x.setWindow(0, 2, 12), 0);
    }

    private static void resetForgetsThePreviousRelation() {
        ContinuousQuery x = new ContinuousQuery(4);
        x.compile();
        x.arrive(0, 1, 2);
        Due.due("step() before reset", x.step(), 1);
        x.reset();
        x.compile();
        x.arrive(0, 1, 2);
        Due.due("step() of the same row after reset", x.step(), 1);
        Due.rowsAre("after reset", x, 0, "1,2,0");
        Due.due("stored(0, 0) after reset", x.stored(0, 0), 258);
    }

    private static void objectsAreIndependent() {
        ContinuousQuery x = withEveryClauseSet(6);
        ContinuousQuery y = new ContinuousQuery(3);
        isDefault("a second object", y, 3);
        Due.due("info(21) of the first", x.info(21), 6);
        Due.due("info(7) of the first", x.info(7), 9);
    }
}
