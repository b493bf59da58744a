import java.util.ArrayList;
import java.util.List;

/** Promises 11 and 14 where now wraps around: the document asks for Java int arithmetic there. */
public final class WrapAroundTest {
    private static final int RANGE = 3;

    public static void main(String[] args) {
        ContinuousQuery x = new ContinuousQuery(12);
        x.setWindow(0, 1, RANGE);
        x.setWindow(1, 2, 2);
        x.setJoin(1);
        x.setOutput(3);
        x.compile();
        for (int t = 0; t < Integer.MAX_VALUE - 5; t++) {
            x.step();
        }
        Due.due("info(0)", x.info(0), Integer.MAX_VALUE - 5);
        stepsAcrossTheWrap(x);
        Due.end();
    }

    private static void stepsAcrossTheWrap(ContinuousQuery x) {
        List<Integer> range = new ArrayList<>();
        List<Integer> rows = new ArrayList<>();
        int t = Integer.MAX_VALUE - 5;
        for (int i = 0; i < 12; i++) {
            x.arrive(0, 1, 7);
            x.arrive(1, 1, 7);
            range.add(t);
            rows.add(t);
            if (rows.size() > 2) {
                rows.remove(0);
            }
            storesAre("before the step at " + t, x, range, rows);
            Due.due("step() at " + t, x.step(), range.size() * rows.size());
            t++;
            int limit = t - RANGE;
            range.removeIf(ts -> ts <= limit);
            Due.due("info(0)", x.info(0), t);
            storesAre("before the arrivals at " + t, x, range, rows);
        }
    }

    private static void storesAre(String when, ContinuousQuery x, List<Integer> range, List<Integer> rows) {
        Due.same(when + ": store 0", Due.store(x, 0), answers(range));
        Due.same(when + ": store 1", Due.store(x, 1), answers(rows));
    }

    private static List<Integer> answers(List<Integer> instants) {
        List<Integer> answers = new ArrayList<>();
        for (int ts : instants) {
            answers.add(ts * 4096 + 256 + 7);
        }
        return answers;
    }
}
