/** Promises 3 to 8: the clauses of the query. */
public final class ClausesTest {
    private static final int[] FAR = {
        Integer.MIN_VALUE, Integer.MIN_VALUE + 1, -65536, -65535, -257, -256, -255, -3, -2, -1,
        255, 256, 257, 258, 65536, 65537, 65538, Integer.MAX_VALUE - 1, Integer.MAX_VALUE};

    public static void main(String[] args) {
        windowsAreSet();
        wrongWindowsAreRefused();
        filtersAreSet();
        wrongFiltersAreRefused();
        joinIsSet();
        projectIsSet();
        aggregateIsSet();
        outputIsSet();
        everyClauseIsRefusedWhileRunning();
        phaseIsTestedBeforeArguments();
        Due.end();
    }

    /** Exactly the given info codes have changed, to the given values. */
    private static void changedOnly(String call, ContinuousQuery x, int[] before, int... codesAndValues) {
        int[] want = before.clone();
        for (int i = 0; i < codesAndValues.length; i += 2) {
            want[codesAndValues[i]] = codesAndValues[i + 1];
        }
        Due.infosAre("after " + call, x, want);
    }

    private static void windowsAreSet() {
        for (int cap = 2; cap <= 12; cap++) {
            for (int stream = 0; stream <= 1; stream++) {
                ContinuousQuery x = new ContinuousQuery(cap);
                for (int size = 1; size <= 64; size++) {
                    setsWindow(x, stream, 1, size);
                }
                for (int size = 1; size <= cap; size++) {
                    setsWindow(x, stream, 2, size);
                }
            }
        }
    }

    private static void setsWindow(ContinuousQuery x, int stream, int kind, int size) {
        String call = "setWindow(" + stream + ", " + kind + ", " + size + ")";
        int[] before = Due.infos(x);
        Due.due(call, x.setWindow(stream, kind, size), 0);
        changedOnly(call, x, before, 6 + 2 * stream, kind, 7 + 2 * stream, size);
    }

    private static void wrongWindowsAreRefused() {
        for (int cap = 2; cap <= 12; cap++) {
            ContinuousQuery x = new ContinuousQuery(cap);
            x.setWindow(0, 1, 5);
            x.setWindow(1, 2, 2);
            for (int stream = 0; stream <= 1; stream++) {
                for (int size : new int[] {0, 65, 66}) {
                    refusesWindow(x, stream, 1, size);
                }
                for (int size : new int[] {0, cap + 1, cap + 2, 13, 64, 65}) {
                    refusesWindow(x, stream, 2, size);
                }
                for (int size : FAR) {
                    refusesWindow(x, stream, 1, size);
                    refusesWindow(x, stream, 2, size);
                }
                for (int kind : new int[] {0, 3, 4}) {
                    refusesWindow(x, stream, kind, 1);
                }
                for (int kind : FAR) {
                    refusesWindow(x, stream, kind, 1);
                }
            }
            refusesWindow(x, 2, 1, 1);
            refusesWindow(x, 2, 2, 1);
            for (int stream : FAR) {
                refusesWindow(x, stream, 1, 1);
                refusesWindow(x, stream, 2, 1);
            }
        }
    }

    private static void refusesWindow(ContinuousQuery x, int stream, int kind, int size) {
        Due.refused("setWindow(" + stream + ", " + kind + ", " + size + ")", x, -2,
            () -> x.setWindow(stream, kind, size));
    }

    private static void filtersAreSet() {
        int[] constants = {0, 1, -1, 15, 255, 256, Integer.MIN_VALUE, Integer.MAX_VALUE};
        for (int stream = 0; stream <= 1; stream++) {
            ContinuousQuery x = new ContinuousQuery(4);
            for (int constant : constants) {
                for (int field = 0; field <= 1; field++) {
                    for (int op = 1; op <= 4; op++) {
                        setsFilter(x, stream, field, op, constant, op, field, constant);
                    }
                    setsFilter(x, stream, field, 0, constant, 0, 0, 0);
                }
            }
            for (int field : FAR) {
                x.setFilter(stream, 1, 3, 9);
                setsFilter(x, stream, field, 0, 8, 0, 0, 0);
            }
            setsFilter(x, stream, 2, 0, 8, 0, 0, 0);
        }
    }

    private static void setsFilter(ContinuousQuery x, int stream, int field, int op, int constant,
            int wantOp, int wantField, int wantConstant) {
        String call = "setFilter(" + stream + ", " + field + ", " + op + ", " + constant + ")";
        int[] before = Due.infos(x);
        int first = 10 + 3 * stream;
        Due.due(call, x.setFilter(stream, field, op, constant), 0);
        changedOnly(call, x, before, first, wantOp, first + 1, wantField, first + 2, wantConstant);
    }

    private static void wrongFiltersAreRefused() {
        ContinuousQuery x = new ContinuousQuery(4);
        x.setFilter(0, 1, 3, 7);
        x.setFilter(1, 0, 2, -7);
        for (int stream = 0; stream <= 1; stream++) {
            for (int op = 1; op <= 4; op++) {
                refusesFilter(x, stream, 2, op);
                for (int field : FAR) {
                    refusesFilter(x, stream, field, op);
                }
            }
            refusesFilter(x, stream, 0, 5);
            refusesFilter(x, stream, 1, 5);
            for (int op : FAR) {
                refusesFilter(x, stream, 0, op);
            }
        }
        refusesFilter(x, 2, 0, 1);
        refusesFilter(x, 2, 0, 0);
        for (int stream : FAR) {
            refusesFilter(x, stream, 0, 1);
            refusesFilter(x, stream, 0, 0);
        }
    }

    private static void refusesFilter(ContinuousQuery x, int stream, int field, int op) {
        Due.refused("setFilter(" + stream + ", " + field + ", " + op + ", 3)", x, -2,
            () -> x.setFilter(stream, field, op, 3));
    }

    private static void joinIsSet() {
        ContinuousQuery x = new ContinuousQuery(4);
        for (int on : new int[] {1, 1, 0, 0, 1}) {
            int[] before = Due.infos(x);
            Due.due("setJoin(" + on + ")", x.setJoin(on), 0);
            changedOnly("setJoin(" + on + ")", x, before, 16, on);
        }
        Due.refused("setJoin(2)", x, -2, () -> x.setJoin(2));
        for (int on : FAR) {
            Due.refused("setJoin(" + on + ")", x, -2, () -> x.setJoin(on));
        }
    }

    private static void projectIsSet() {
        ContinuousQuery x = new ContinuousQuery(4);
        for (int mask = 1; mask <= 7; mask++) {
            int[] before = Due.infos(x);
            Due.due("setProject(" + mask + ")", x.setProject(mask), 0);
            changedOnly("setProject(" + mask + ")", x, before, 17, mask);
        }
        x.setProject(5);
        for (int mask : new int[] {0, 8, 9, 15}) {
            Due.refused("setProject(" + mask + ")", x, -2, () -> x.setProject(mask));
        }
        for (int mask : FAR) {
            Due.refused("setProject(" + mask + ")", x, -2, () -> x.setProject(mask));
        }
    }

    private static void aggregateIsSet() {
        ContinuousQuery x = new ContinuousQuery(4);
        setsAggregate(x, 2, 1, 1);
        setsAggregate(x, 2, 2, 2);
        for (int kind = 0; kind <= 1; kind++) {
            for (int column : FAR) {
                x.setAggregate(2, 2);
                setsAggregate(x, kind, column, 0);
            }
            for (int column = 0; column <= 3; column++) {
                x.setAggregate(2, 1);
                setsAggregate(x, kind, column, 0);
            }
        }
        x.setAggregate(2, 2);
        refusesAggregate(x, 2, 0);
        refusesAggregate(x, 2, 3);
        refusesAggregate(x, 3, 1);
        for (int far : FAR) {
            refusesAggregate(x, 2, far);
            refusesAggregate(x, far, 1);
        }
    }

    private static void setsAggregate(ContinuousQuery x, int kind, int column, int wantColumn) {
        String call = "setAggregate(" + kind + ", " + column + ")";
        int[] before = Due.infos(x);
        Due.due(call, x.setAggregate(kind, column), 0);
        changedOnly(call, x, before, 18, kind, 19, wantColumn);
    }

    private static void refusesAggregate(ContinuousQuery x, int kind, int column) {
        Due.refused("setAggregate(" + kind + ", " + column + ")", x, -2,
            () -> x.setAggregate(kind, column));
    }

    private static void outputIsSet() {
        ContinuousQuery x = new ContinuousQuery(4);
        for (int kind : new int[] {3, 2, 1, 2, 3}) {
            int[] before = Due.infos(x);
            Due.due("setOutput(" + kind + ")", x.setOutput(kind), 0);
            changedOnly("setOutput(" + kind + ")", x, before, 20, kind);
        }
        for (int kind : new int[] {0, 4, 5}) {
            Due.refused("setOutput(" + kind + ")", x, -2, () -> x.setOutput(kind));
        }
        for (int kind : FAR) {
            Due.refused("setOutput(" + kind + ")", x, -2, () -> x.setOutput(kind));
        }
    }

    private static void everyClauseIsRefusedWhileRunning() {
        ContinuousQuery x = running();
        Due.refused("setWindow(0, 1, 3)", x, -1, () -> x.setWindow(0, 1, 3));
        Due.refused("setWindow(1, 2, 2)", x, -1, () -> x.setWindow(1, 2, 2));
        Due.refused("setFilter(0, 1, 1, 2)", x, -1, () -> x.setFilter(0, 1, 1, 2));
        Due.refused("setFilter(1, 0, 0, 0)", x, -1, () -> x.setFilter(1, 0, 0, 0));
        Due.refused("setJoin(0)", x, -1, () -> x.setJoin(0));
        Due.refused("setJoin(1)", x, -1, () -> x.setJoin(1));
        Due.refused("setProject(1)", x, -1, () -> x.setProject(1));
        Due.refused("setAggregate(0, 0)", x, -1, () -> x.setAggregate(0, 0));
        Due.refused("setAggregate(2, 1)", x, -1, () -> x.setAggregate(2, 1));
        Due.refused("setOutput(2)", x, -1, () -> x.setOutput(2));
    }

    private static void phaseIsTestedBeforeArguments() {
        ContinuousQuery x = running();
        Due.refused("setWindow(2, 0, 0)", x, -1, () -> x.setWindow(2, 0, 0));
        Due.refused("setFilter(2, 2, 9, 0)", x, -1, () -> x.setFilter(2, 2, 9, 0));
        Due.refused("setJoin(2)", x, -1, () -> x.setJoin(2));
        Due.refused("setProject(0)", x, -1, () -> x.setProject(0));
        Due.refused("setAggregate(3, 0)", x, -1, () -> x.setAggregate(3, 0));
        Due.refused("setOutput(0)", x, -1, () -> x.setOutput(0));
    }

    private static ContinuousQuery running() {
        ContinuousQuery x = new ContinuousQuery(4);
        x.setJoin(1);
        x.compile();
        x.arrive(0, 3, 4);
        x.arrive(1, 3, 5);
        Due.due("step()", x.step(), 1);
        x.arrive(1, 3, 6);
        return x;
    }
}
