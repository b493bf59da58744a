import java.util.ArrayList;
import java.util.Comparator;
import java.util.List;
import java.util.Map;
import java.util.TreeMap;

/**
 * Promise 11, what follows from it: every list that a step leaves is told by what stored, info and
 * row answered just before the step. Nothing else is used here to tell what is due.
 */
public final class FromScratchTest {
    private static final Comparator<List<Integer>> ROW_ORDER =
        Comparator.<List<Integer>>comparingInt(row -> row.get(0))
            .thenComparingInt(row -> row.get(1))
            .thenComparingInt(row -> row.get(2));

    public static void main(String[] args) {
        Edge.holds("The relation list, read by row(ROW_REL, ...), is exactly the multiset obtained by evaluating"
            + " the query from scratch on the tuples that stored(...) listed for both streams just before the"
            + " step, with the clauses that info reported at that time.", () -> everyQuery(true));
        Edge.holds("The output list, read by row(ROW_OUT, ...), has exactly n rows and is exactly that multiset"
            + " minus P (ISTREAM), P minus it (DSTREAM), or that multiset itself (RSTREAM), as multiset"
            + " differences.", () -> everyQuery(false));
        Due.end();
    }

    private static void everyQuery(boolean relation) {
        int[][] aggregates = {{0, 0}, {1, 0}, {2, 1}, {2, 2}};
        for (int[] aggregate : aggregates) {
            for (int mask = 1; mask <= 7; mask++) {
                for (int output = 1; output <= 3; output++) {
                    for (int windows = 0; windows < 6; windows++) {
                        for (int join = aggregate[1] == 2 ? 1 : 0; join <= 1; join++) {
                            play(query(join, aggregate, mask, output, windows), relation);
                        }
                    }
                }
            }
        }
    }

    private static ContinuousQuery query(int join, int[] aggregate, int mask, int output, int windows) {
        int[][] kindsAndSizes = {{2, 12, 2, 12}, {1, 1, 2, 1}, {2, 3, 1, 2}, {1, 64, 1, 4}, {1, 3, 1, 1},
            {2, 1, 2, 2}};
        int[] window = kindsAndSizes[windows];
        ContinuousQuery x = new ContinuousQuery(windows % 2 == 0 ? 12 : 4);
        Due.due("the window of S0", x.setWindow(0, window[0], window[1]), 0);
        Due.due("the window of S1", x.setWindow(1, window[2], window[3]), 0);
        x.setJoin(join);
        x.setAggregate(aggregate[0], aggregate[1]);
        x.setProject(mask);
        x.setOutput(output);
        x.setFilter(0, mask % 2, windows % 5, constantFor(x, mask % 2, output));
        x.setFilter(1, output % 2, mask % 5, constantFor(x, output % 2, 2));
        Due.due("compile()", x.compile(), 0);
        return x;
    }

    // The keys of a query are three in a row, from 0, 1, 2 to 13, 14, 15.
    private static int firstKey(ContinuousQuery x) {
        return (2 * x.info(17) + 5 * x.info(20) + x.info(7)) % 14;
    }

    // The values of a query are five in a row, either the least or the greatest.
    private static int firstValue(ContinuousQuery x) {
        return x.info(7) % 2 == 0 ? 0 : 251;
    }

    private static int constantFor(ContinuousQuery x, int field, int value) {
        return field == 0 ? firstKey(x) + 1 : firstValue(x) + value;
    }

    private static void play(ContinuousQuery x, boolean relation) {
        int firstKey = firstKey(x);
        int firstValue = firstValue(x);
        for (int t = 0; t < 24; t++) {
            for (int i = 0; i < t % 7; i++) {
                x.arrive(0, firstKey + (t + i) % 3, firstValue + (t * i) % 5);
                x.arrive(1, firstKey + (t + 2 * i) % 3, firstValue + (t + i) % 4);
            }
            List<List<Integer>> due = fromScratch(x);
            List<List<Integer>> previous = Due.rows(x, 1);
            Due.same("P of the first step", t > 0 || previous.isEmpty(), true);
            int n = x.step();
            if (relation) {
                Due.same("the relation at " + t, Due.rows(x, 1), due);
            } else {
                Due.due("rows at " + t, x.info(2), n);
                Due.same("the output at " + t, Due.rows(x, 0), outputOf(x.info(20), due, previous));
            }
        }
    }

    private static List<List<Integer>> outputOf(int kind, List<List<Integer>> due, List<List<Integer>> previous) {
        if (kind == 3) {
            return due;
        }
        List<List<Integer>> rest = new ArrayList<>(kind == 1 ? due : previous);
        for (List<Integer> row : kind == 1 ? previous : due) {
            rest.remove(row);
        }
        return rest;
    }

    /** The tuples (key, value) of a store that pass its filter. */
    private static List<int[]> passing(ContinuousQuery x, int stream) {
        int op = x.info(10 + 3 * stream);
        int field = x.info(11 + 3 * stream);
        int constant = x.info(12 + 3 * stream);
        List<int[]> tuples = new ArrayList<>();
        for (int told : Due.store(x, stream)) {
            int[] tuple = {told >> 8 & 15, told & 255};
            int f = tuple[field];
            boolean passes = op == 0 || op == 1 && f == constant || op == 2 && f != constant
                || op == 3 && f < constant || op == 4 && f > constant;
            if (passes) {
                tuples.add(tuple);
            }
        }
        return tuples;
    }

    private static List<int[]> baseRows(ContinuousQuery x) {
        List<int[]> rows = new ArrayList<>();
        for (int[] a : passing(x, 0)) {
            if (x.info(16) == 0) {
                rows.add(new int[] {a[0], a[1], 0});
            } else {
                passing(x, 1).stream().filter(b -> a[0] == b[0])
                    .forEach(b -> rows.add(new int[] {a[0], a[1], b[1]}));
            }
        }
        return rows;
    }

    private static List<List<Integer>> fromScratch(ContinuousQuery x) {
        List<int[]> rows = baseRows(x);
        if (x.info(18) != 0) {
            Map<Integer, Integer> groups = new TreeMap<>();
            for (int[] row : rows) {
                groups.merge(row[0], x.info(18) == 1 ? 1 : row[x.info(19)], Integer::sum);
            }
            rows = new ArrayList<>();
            for (Map.Entry<Integer, Integer> group : groups.entrySet()) {
                rows.add(new int[] {group.getKey(), group.getValue(), 0});
            }
        }
        List<List<Integer>> result = new ArrayList<>();
        for (int[] row : rows) {
            List<Integer> projected = new ArrayList<>();
            for (int col = 0; col <= 2; col++) {
                projected.add((x.info(17) & 1 << col) == 0 ? 0 : row[col]);
            }
            result.add(projected);
        }
        result.sort(ROW_ORDER);
        return result;
    }
}
