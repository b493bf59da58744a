/** Promises 12 to 14: info, row and stored. */
public final class ReadingTest {
    private static final int[] FAR = {
        Integer.MIN_VALUE, Integer.MIN_VALUE + 1, -65536, -256, -2, -1,
        256, 257, 65536, 65537, Integer.MAX_VALUE - 1, Integer.MAX_VALUE};

    public static void main(String[] args) {
        infoAnswersEachCode();
        infoRefusesOtherCodes();
        rowReadsBothLists();
        rowRefusesWrongArguments();
        storedReadsTuplesOldestFirst();
        storedRefusesWrongArguments();
        staleRowsAndTuplesAreNotRead();
        storedWrapsAround();
        readingChangesNothing();
        Due.end();
    }

    /** S0 holds two tuples, S1 three; the last step emitted one row of a relation of three. */
    private static ContinuousQuery sample() {
        ContinuousQuery x = new ContinuousQuery(9);
        x.setWindow(0, 1, 33);
        x.setWindow(1, 2, 8);
        x.setFilter(0, 1, 4, -5);
        x.setFilter(1, 1, 3, 250);
        x.setJoin(1);
        x.setProject(6);
        x.compile();
        x.arrive(0, 2, 30);
        x.arrive(0, 3, 40);
        x.arrive(1, 3, 50);
        x.arrive(1, 2, 61);
        x.step();
        x.arrive(1, 3, 49);
        x.step();
        return x;
    }

    private static void infoAnswersEachCode() {
        ContinuousQuery x = sample();
        int[] want = {2, 1, 1, 3, 2, 3, 1, 33, 2, 8, 4, 1, -5, 3, 1, 250, 1, 6, 0, 0, 1, 9};
        Due.infosAre("sample", x, want);

        ContinuousQuery y = new ContinuousQuery(9);
        y.setFilter(0, 0, 1, Integer.MIN_VALUE);
        y.setFilter(1, 0, 2, Integer.MAX_VALUE);
        y.setAggregate(2, 1);
        y.setOutput(3);
        int[] wantInConfig = {0, 0, 0, 0, 0, 0, 2, 9, 2, 9,
            1, 0, Integer.MIN_VALUE, 2, 0, Integer.MAX_VALUE, 0, 7, 2, 1, 3, 9};
        Due.infosAre("in CONFIG", y, wantInConfig);
    }

    private static void infoRefusesOtherCodes() {
        ContinuousQuery x = sample();
        ContinuousQuery y = new ContinuousQuery(9);
        for (int what = -40; what <= 300; what++) {
            if (what < 0 || what > 21) {
                Due.due("info(" + what + ")", x.info(what), -1);
                Due.due("info(" + what + ") in CONFIG", y.info(what), -1);
            }
        }
        for (int what : FAR) {
            Due.due("info(" + what + ")", x.info(what), -1);
        }
    }

    private static void rowReadsBothLists() {
        ContinuousQuery x = sample();
        Due.rowsAre("sample", x, 0, "0,40,49");
        Due.rowsAre("sample", x, 1, "0,30,61 0,40,49 0,40,50");
        Due.due("row(1, 2, 2)", x.row(1, 2, 2), 50);
        Due.due("row(1, 0, 1)", x.row(1, 0, 1), 30);
        Due.due("row(0, 0, 2)", x.row(0, 0, 2), 49);
    }

    private static void rowRefusesWrongArguments() {
        ContinuousQuery x = sample();
        Due.due("row(2, 0, 1)", x.row(2, 0, 1), -1);
        Due.due("row(0, 1, 1)", x.row(0, 1, 1), -1);
        Due.due("row(1, 3, 1)", x.row(1, 3, 1), -1);
        Due.due("row(0, 0, 3)", x.row(0, 0, 3), -1);
        Due.due("row(1, 0, 3)", x.row(1, 0, 3), -1);
        for (int far : FAR) {
            Due.due("row(" + far + ", 0, 1)", x.row(far, 0, 1), -1);
            for (int which = 0; which <= 1; which++) {
                Due.due("row(" + which + ", " + far + ", 1)", x.row(which, far, 1), -1);
                Due.due("row(" + which + ", 0, " + far + ")", x.row(which, 0, far), -1);
            }
        }
        ContinuousQuery empty = new ContinuousQuery(9);
        for (int i = -2; i <= 200; i++) {
            Due.due("row(0, " + i + ", 0) of an empty list", empty.row(0, i, 0), -1);
            Due.due("row(1, " + i + ", 0) of an empty list", empty.row(1, i, 0), -1);
        }
    }

    private static void storedReadsTuplesOldestFirst() {
        ContinuousQuery x = sample();
        Due.due("stored(0, 0)", x.stored(0, 0), 2 * 256 + 30);
        Due.due("stored(0, 1)", x.stored(0, 1), 3 * 256 + 40);
        Due.due("stored(1, 0)", x.stored(1, 0), 3 * 256 + 50);
        Due.due("stored(1, 1)", x.stored(1, 1), 2 * 256 + 61);
        Due.due("stored(1, 2)", x.stored(1, 2), 4096 + 3 * 256 + 49);
    }

    private static void storedRefusesWrongArguments() {
        ContinuousQuery x = sample();
        Due.due("stored(0, 2)", x.stored(0, 2), -1);
        Due.due("stored(1, 3)", x.stored(1, 3), -1);
        Due.due("stored(2, 0)", x.stored(2, 0), -1);
        for (int i = -30; i <= 60; i++) {
            if (i < 0 || i > 2) {
                Due.due("stored(0, " + i + ")", x.stored(0, i), -1);
                Due.due("stored(1, " + i + ")", x.stored(1, i), -1);
            }
        }
        ContinuousQuery empty = new ContinuousQuery(9);
        for (int far : FAR) {
            Due.due("stored(" + far + ", 0)", x.stored(far, 0), -1);
            Due.due("stored(0, " + far + ")", x.stored(0, far), -1);
            Due.due("stored(1, " + far + ")", x.stored(1, far), -1);
            Due.due("stored(0, " + far + ") of an empty store", empty.stored(0, far), -1);
        }
    }

    private static void staleRowsAndTuplesAreNotRead() {
        ContinuousQuery x = new ContinuousQuery(4);
        x.setWindow(0, 1, 1);
        x.setOutput(3);
        x.compile();
        x.arrive(0, 1, 1);
        x.arrive(0, 2, 2);
        Due.due("step at 0", x.step(), 2);
        Due.due("stored(0, 0) after expiry", x.stored(0, 0), -1);
        Due.due("row(0, 1, 0)", x.row(0, 1, 0), 2);
        Due.due("step at 1", x.step(), 0);
        Due.due("row(0, 0, 0) of the empty output", x.row(0, 0, 0), -1);
        Due.due("row(1, 0, 0) of the empty relation", x.row(1, 0, 0), -1);
    }

    private static void storedWrapsAround() {
        ContinuousQuery x = new ContinuousQuery(12);
        x.setWindow(0, 1, 3);
        x.setJoin(1);
        x.compile();
        int[] instants = {524286, 524287, 524288, 524289, 1048574, 1048575, 1048576};
        int next = 0;
        for (int t = 0; t <= 1048576; t++) {
            if (t == instants[next]) {
                int want = t * 4096 + 15 * 256 + 255;
                x.arrive(0, 15, 255);
                x.arrive(1, 15, 255);
                Due.due("newest of S0 at " + t, x.stored(0, x.info(4) - 1), want);
                Due.due("newest of S1 at " + t, x.stored(1, x.info(5) - 1), want);
                next = Math.min(next + 1, instants.length - 1);
            }
            x.step();
        }
        Due.due("info(0)", x.info(0), 1048577);
        Due.due("held in S0", x.info(4), 2);
        Due.due("held in S1", x.info(5), 7);
    }

    private static void readingChangesNothing() {
        ContinuousQuery x = sample();
        String before = Due.state(x);
        for (int a = -3; a <= 30; a++) {
            x.info(a);
            for (int b = -3; b <= 30; b++) {
                x.stored(a, b);
                x.row(a, b, 0);
                x.row(0, a, b);
                x.row(1, a, b);
            }
        }
        Due.same("the state after reading", Due.state(x), before);
    }
}
