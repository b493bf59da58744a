import java.util.ArrayList;
import java.util.List;

/**
 * Promises 11 and 14 where now passes the greatest int. Only steps lead there, so each object makes
 * some two thousand million of them, in a thread of its own. There RANGE means what the sentence on
 * a step's removals says in int arithmetic: a tuple of the least instants leaves with its own step.
 * Shorter runs look at the first ten thousand instants and at those about the lesser powers of two.
 */
public final class WrapAroundTest {
    private static final int START = Integer.MAX_VALUE - 70;
    private static final int STEPS = 160;

    public static void main(String[] args) throws InterruptedException {
        ContinuousQuery narrow = query(Edge.RANGE, 1, Edge.RANGE, 3);
        ContinuousQuery wide = query(Edge.RANGE, 64, Edge.RANGE, 2);
        ContinuousQuery rows = query(Edge.RANGE, 63, Edge.ROWS, 2);
        // Before any tuple arrives: Java is fastest with steps as long as it has seen empty stores only.
        stepAll(narrow, wide, rows);
        Edge.holds("now becomes t + 1, in Java int arithmetic.", () -> nowPassesTheGreatestInt(rows));
        Edge.holds("Stores under a ROWS window are not changed by a step.", () -> rowsStoreStays(rows));
        Edge.holds("For each stream with a RANGE r window, held tuples with ts <= now - r are removed (with the new"
            + " now, in Java int arithmetic), and the remaining tuples keep their order.", () -> {
                holdsItsInstants(narrow, 1, 3, START, STEPS);
                holdsItsInstants(wide, 64, 2, START, STEPS);
                looksOnTheWay(1, 3);
                looksOnTheWay(64, 2);
            });
        Due.end();
    }

    private static ContinuousQuery query(int kind0, int size0, int kind1, int size1) {
        ContinuousQuery x = new ContinuousQuery(12);
        Due.due("the window of S0", x.setWindow(0, kind0, size0), 0);
        Due.due("the window of S1", x.setWindow(1, kind1, size1), 0);
        x.setJoin(1);
        x.setOutput(3);
        Due.due("compile()", x.compile(), 0);
        return x;
    }

    private static void stepAll(ContinuousQuery... queries) throws InterruptedException {
        List<Thread> threads = new ArrayList<>();
        for (ContinuousQuery x : queries) {
            Thread thread = new Thread(() -> stepTo(x, START));
            thread.start();
            threads.add(thread);
        }
        for (Thread thread : threads) {
            thread.join();
        }
    }

    private static void stepTo(ContinuousQuery x, int instant) {
        for (int t = x.info(0); t < instant; t++) {
            x.step();
        }
    }

    private static void looksOnTheWay(int r0, int r1) {
        ContinuousQuery x = query(Edge.RANGE, r0, Edge.RANGE, r1);
        holdsItsInstants(x, r0, r1, 0, 10_000);
        for (int bit = 14; bit <= 26; bit++) {
            int start = (1 << bit) - 70;
            stepTo(x, start);
            holdsItsInstants(x, r0, r1, start, STEPS);
        }
    }

    private static void nowPassesTheGreatestInt(ContinuousQuery x) {
        Due.due("now at the start", x.info(0), START);
        x.arrive(1, 2, 3);
        for (int t = START; t < Integer.MAX_VALUE; t++) {
            Due.due("now", x.info(0), t);
            Due.due("the step at " + t, x.step(), 0);
        }
        Due.due("the greatest now", x.info(0), Integer.MAX_VALUE);
        x.arrive(1, 15, 255);
        Due.due("the step at the greatest now", x.step(), 0);
        Due.due("now after it", x.info(0), Integer.MIN_VALUE);
        Due.due("the step at the least now", x.step(), 0);
        Due.due("now after that", x.info(0), Integer.MIN_VALUE + 1);
    }

    // A tuple of an instant long before the greatest one, then one of that, then one of the least.
    private static void rowsStoreStays(ContinuousQuery x) {
        List<Integer> before = List.of(START * 4096 + 515, -1);
        Due.same("the ROWS store after the greatest now", Due.store(x, 1), before);
        x.arrive(1, 0, 0);
        for (int t = Integer.MIN_VALUE + 1; t < Integer.MIN_VALUE + 100; t++) {
            Due.due("now", x.info(0), t);
            Due.same("the ROWS store at " + t, Due.store(x, 1), List.of(-1, 4096));
            Due.due("the step at " + t, x.step(), 0);
        }
    }

    // Both windows are RANGE, and nothing is held at the start.
    private static void holdsItsInstants(ContinuousQuery x, int r0, int r1, int start, int steps) {
        List<Integer> held0 = new ArrayList<>();
        List<Integer> held1 = new ArrayList<>();
        int t = start;
        for (int i = 0; i < steps; i++) {
            // Every seventh instant only, so that a RANGE 64 store of 12 places never fills.
            arriveAt(x, 0, t, i % 7 == 0 || t == Integer.MIN_VALUE + 1, held0);
            arriveAt(x, 1, t, true, held1);
            storesAre("before the step at " + t, x, held0, held1);
            Due.due("step() at " + t, x.step(), held0.size() * held1.size());
            t++;
            int limit0 = t - r0;
            int limit1 = t - r1;
            held0.removeIf(ts -> ts <= limit0);
            held1.removeIf(ts -> ts <= limit1);
            Due.due("now", x.info(0), t);
            storesAre("before the arrivals at " + t, x, held0, held1);
        }
    }

    private static void arriveAt(ContinuousQuery x, int stream, int t, boolean wanted, List<Integer> held) {
        if (wanted) {
            Due.due("arrive(" + stream + ", 1, 7) at " + t, x.arrive(stream, 1, 7), 0);
            held.add(t);
        }
    }

    private static void storesAre(String when, ContinuousQuery x, List<Integer> held0, List<Integer> held1) {
        Due.same(when + ": store 0", Due.store(x, 0), answers(held0));
        Due.same(when + ": store 1", Due.store(x, 1), answers(held1));
    }

    private static List<Integer> answers(List<Integer> instants) {
        List<Integer> answers = new ArrayList<>();
        for (int ts : instants) {
            answers.add(ts * 4096 + 256 + 7);
        }
        return answers;
    }
}
