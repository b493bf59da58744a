/** Promise 14, stored: each sentence that names a boundary case. */
public final class Promise14EdgesTest {
    public static void main(String[] args) {
        Edge.holds("`stored(stream, i)` reads the i-th held tuple of the store of the stream, with i = 0 the"
            + " oldest.", Promise14EdgesTest::oldestToNewest);
        Edge.holds("It answers ts * 4096 + key * 256 + value, computed in Java int arithmetic.",
            Promise14EdgesTest::answersWrapAround);
        Edge.holds("It answers -1 if stream is not 0 or 1", Promise14EdgesTest::wrongStream);
        Edge.holds("if i is outside 0..held-1, where held is the number of tuples held in that store",
            Promise14EdgesTest::tupleOutside);
        Edge.holds("this includes any i when the store is empty.", Promise14EdgesTest::emptyStore);
        Edge.holds("stored never changes anything.", Promise14EdgesTest::changesNothing);
        Due.end();
    }

    private static void oldestToNewest() {
        for (int stream = 0; stream <= 1; stream++) {
            ContinuousQuery x = new ContinuousQuery(12);
            x.setJoin(1);
            x.compile();
            for (int i = 0; i < 30; i++) {
                x.arrive(stream, i % 16, i);
                int held = Math.min(12, i + 1);
                Due.due("the oldest", x.stored(stream, 0), tuple(i - held + 1));
                Due.due("the newest", x.stored(stream, held - 1), tuple(i));
                x.step();
            }
        }
    }

    private static int tuple(int i) {
        return i * 4096 + i % 16 * 256 + i;
    }

    // ts * 4096 passes the greatest int at 2^19 and comes back to 0 at 2^20; just before that a
    // tuple (15, 255) is told by -1.
    private static void answersWrapAround() {
        int[] instants = {0, 1, 524287, 524288, 524289, 1048575, 1048576, 1048577};
        int[] zeros = {0, 4096, 2147479552, -2147483648, -2147479552, -4096, 0, 4096};
        ContinuousQuery x = new ContinuousQuery(2);
        x.setJoin(1);
        x.setWindow(1, Edge.RANGE, 1);
        x.compile();
        int next = 0;
        for (int t = 0; t <= 1048577; t++) {
            if (t == instants[next]) {
                x.arrive(0, 0, 0);
                x.arrive(0, 15, 255);
                x.arrive(1, 0, 0);
                x.arrive(1, 15, 255);
                for (int stream = 0; stream <= 1; stream++) {
                    Due.due("(0, 0) of instant " + t, x.stored(stream, 0), zeros[next]);
                    Due.due("(15, 255) of instant " + t, x.stored(stream, 1), zeros[next] + 4095);
                }
                next++;
            }
            x.step();
        }
        Due.due("instants looked at", next, instants.length);
    }

    private static void wrongStream() {
        Edge.allStates().forEach((state, maker) -> {
            ContinuousQuery x = maker.get();
            for (int stream : Edge.outside(0, 1)) {
                for (int i = 0; i <= 3; i++) {
                    Due.due("stored(" + stream + ", " + i + ") on " + state, x.stored(stream, i), -1);
                }
            }
        });
    }

    private static void tupleOutside() {
        for (int held0 = 0; held0 <= 12; held0++) {
            for (int held1 = 0; held1 <= 12; held1++) {
                ContinuousQuery x = new ContinuousQuery(12);
                x.setJoin(1);
                x.compile();
                Edge.arrivals(x, 0, held0);
                Edge.arrivals(x, 1, held1);
                answersMinus1Outside(x, 0, held0);
                answersMinus1Outside(x, 1, held1);
            }
        }
    }

    private static void answersMinus1Outside(ContinuousQuery x, int stream, int held) {
        for (int i = 0; i < held; i++) {
            Due.due("stored(" + stream + ", " + i + ")", x.stored(stream, i), 256 + i);
        }
        for (int i : Edge.outside(0, held - 1)) {
            Due.due("stored(" + stream + ", " + i + ") of " + held, x.stored(stream, i), -1);
        }
        for (int i = held; i <= 30; i++) {
            Due.due("stored(" + stream + ", " + i + ") of " + held, x.stored(stream, i), -1);
        }
    }

    private static void emptyStore() {
        Edge.allStates().forEach((state, maker) -> {
            ContinuousQuery x = maker.get();
            x.reset();
            bothAreEmpty(x);
            x.compile();
            bothAreEmpty(x);
        });
        ContinuousQuery x = Edge.fullRanges();
        x.step();
        answersMinus1Outside(x, 1, 0);
        x.step();
        bothAreEmpty(x);
    }

    private static void bothAreEmpty(ContinuousQuery x) {
        answersMinus1Outside(x, 0, 0);
        answersMinus1Outside(x, 1, 0);
    }

    private static void changesNothing() {
        Edge.allStates().forEach((state, maker) -> {
            ContinuousQuery sample = maker.get();
            for (int stream = -1; stream <= 2; stream++) {
                for (int i : new int[] {Edge.MIN, -1, 0, 1, 2, 3, 12, Edge.MAX}) {
                    int s = stream;
                    Edge.changesNothing("stored(" + s + ", " + i + ") on " + state, sample.stored(s, i), maker,
                        x -> x.stored(s, i));
                }
            }
        });
    }
}
