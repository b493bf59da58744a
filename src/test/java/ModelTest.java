import java.util.ArrayList;
import java.util.Comparator;
import java.util.List;
import java.util.Map;
import java.util.TreeMap;

/**
 * Long mixed runs against a second, plainly written program: every promise at once. The calls
 * come from a fixed arithmetic sequence, so that every run is the same.
 */
public final class ModelTest {
    private static final int RUNS = 3000;
    private static final int CALLS = 150;
    private static final int LONG_RUNS = 30;
    private static final int LONG_CALLS = 6000;
    private static final int QUERY_CALLS = 60;

    private long seed;

    // A run takes most of its keys and values from a short stretch, so that many of them are equal.
    private int firstKey;
    private int keys;
    private int firstValue;
    private int values;

    public static void main(String[] args) {
        for (int run = 1; run <= RUNS; run++) {
            new ModelTest(run).play(run, CALLS);
        }
        // Long enough for a RANGE of 64 to slide over what it holds many times.
        for (int run = RUNS + 1; run <= RUNS + LONG_RUNS; run++) {
            new ModelTest(run).play(run, LONG_CALLS);
        }
        everyQuery();
        Due.end();
    }

    private ModelTest(int run) {
        seed = run * 7919L;
        keys = 1 + upTo(4);
        firstKey = upTo(17 - keys);
        values = 1 + upTo(6);
        firstValue = upTo(2) == 0 ? 0 : upTo(257 - values);
    }

    private int upTo(int bound) {
        seed = seed * 6364136223846793005L + 1442695040888963407L;
        return (int) ((seed >>> 33) % bound);
    }

    /** Mostly a number of low..high, now and then one just or far outside. */
    private int near(int low, int high) {
        int choice = upTo(40);
        if (choice == 0) {
            return low - 1;
        }
        if (choice == 1) {
            return high + 1;
        }
        if (choice == 2) {
            return upTo(2) == 0 ? Integer.MIN_VALUE : Integer.MAX_VALUE;
        }
        return low + upTo(high - low + 1);
    }

    private void play(int run, int calls) {
        int cap = upTo(16);
        ContinuousQuery x = new ContinuousQuery(cap);
        Model model = new Model(cap);
        goOn("run " + run, x, model, calls);
    }

    private void goOn(String run, ContinuousQuery x, Model model, int calls) {
        for (int call = 0; call < calls; call++) {
            String made = model.info(1) == 0 ? configCall(x, model) : runningCall(x, model);
            compare(run + ", call " + call + ", " + made, x, model);
        }
    }

    /** Each join, aggregate, output kind and pair of window kinds, with each pair of filter ops. */
    private static void everyQuery() {
        int run = 0;
        for (int join = 0; join <= 1; join++) {
            for (int[] aggregate : new int[][] {{0, 0}, {1, 0}, {2, 1}, {2, 2}}) {
                for (int output = 1; output <= 3; output++) {
                    for (int kinds = 0; kinds < 4; kinds++) {
                        for (int ops = 0; ops < 25; ops++) {
                            int[] clauses = {join, aggregate[0], aggregate[1], output,
                                1 + kinds % 2, 1 + kinds / 2, ops % 5, ops / 5};
                            run++;
                            new ModelTest(run).playQuery("query " + run, clauses);
                        }
                    }
                }
            }
        }
    }

    private void playQuery(String run, int[] clauses) {
        int cap = 2 + upTo(11);
        ContinuousQuery x = new ContinuousQuery(cap);
        Model model = new Model(cap);
        same("setJoin", x.setJoin(clauses[0]), model.setJoin(clauses[0]));
        same("setAggregate", x.setAggregate(clauses[1], clauses[2]), model.setAggregate(clauses[1], clauses[2]));
        same("setOutput", x.setOutput(clauses[3]), model.setOutput(clauses[3]));
        int mask = 1 + upTo(7);
        same("setProject", x.setProject(mask), model.setProject(mask));
        for (int stream = 0; stream <= 1; stream++) {
            int kind = clauses[4 + stream];
            int size = 1 + upTo(kind == 1 ? 8 : cap);
            same("setWindow", x.setWindow(stream, kind, size), model.setWindow(stream, kind, size));
            int op = clauses[6 + stream];
            int field = upTo(2);
            int constant = constantFor(field);
            setFilter(x, model, stream, field, op, constant);
        }
        same("compile", x.compile(), model.compile());
        goOn(run, x, model, QUERY_CALLS);
    }

    /** A constant that some tuples of this run pass and others do not. */
    private int constantFor(int field) {
        return field == 0 ? firstKey + upTo(keys) : firstValue + upTo(values);
    }

    private String configCall(ContinuousQuery x, Model model) {
        int stream = near(0, 1);
        int a = near(0, 7);
        int b = near(0, 4);
        int c = near(0, 3);
        switch (upTo(9)) {
            case 0: return setRange(x, model, stream, upTo(2) == 0 ? a : near(1, 64));
            case 1: return same("setWindow", x.setWindow(stream, c, a), model.setWindow(stream, c, a));
            case 2: return setFilter(x, model, stream, c, b, upTo(3) == 0 ? a : constantFor(c));
            case 3: return same("setJoin", x.setJoin(stream), model.setJoin(stream));
            case 4: return same("setProject", x.setProject(a), model.setProject(a));
            case 5: return same("setAggregate", x.setAggregate(c, stream + 1), model.setAggregate(c, stream + 1));
            case 6: return same("setOutput", x.setOutput(c), model.setOutput(c));
            case 7: return same("compile", x.compile(), model.compile());
            default: return strayCall(x, model);
        }
    }

    private static String setRange(ContinuousQuery x, Model model, int stream, int size) {
        return same("setWindow", x.setWindow(stream, 1, size), model.setWindow(stream, 1, size));
    }

    private static String setFilter(ContinuousQuery x, Model model, int stream, int field, int op, int constant) {
        return same("setFilter", x.setFilter(stream, field, op, constant), model.setFilter(stream, field, op, constant));
    }

    private String runningCall(ContinuousQuery x, Model model) {
        int choice = upTo(100);
        if (choice == 0) {
            return strayCall(x, model);
        }
        if (choice < 30) {
            return same("step", x.step(), model.step());
        }
        int stream = near(0, 1);
        int key = choice < 33 ? near(0, 15) : firstKey + upTo(keys);
        int value = choice < 36 ? near(0, 255) : firstValue + upTo(values);
        return same("arrive", x.arrive(stream, key, value), model.arrive(stream, key, value));
    }

    /** A call that is often out of its phase, or reset. */
    private String strayCall(ContinuousQuery x, Model model) {
        switch (upTo(9)) {
            case 0: return same("reset", x.reset(), model.reset());
            case 1: return same("setWindow", x.setWindow(0, 1, 2), model.setWindow(0, 1, 2));
            case 2: return same("setFilter", x.setFilter(1, 1, 2, 3), model.setFilter(1, 1, 2, 3));
            case 3: return same("setJoin", x.setJoin(1), model.setJoin(1));
            case 4: return same("setProject", x.setProject(3), model.setProject(3));
            case 5: return same("setAggregate", x.setAggregate(1, 9), model.setAggregate(1, 9));
            case 6: return same("setOutput", x.setOutput(2), model.setOutput(2));
            case 7: return same("arrive", x.arrive(0, 1, 1), model.arrive(0, 1, 1));
            default: return same("compile", x.compile(), model.compile());
        }
    }

    private static String same(String call, int got, int want) {
        Due.due(call, got, want);
        return call;
    }

    private static void compare(String when, ContinuousQuery x, Model model) {
        for (int what = -1; what <= 22; what++) {
            Due.due(when + ": info(" + what + ")", x.info(what), model.info(what));
        }
        Due.same(when + ": output", Due.rows(x, 0), model.out);
        Due.same(when + ": relation", Due.rows(x, 1), model.relation);
        for (int stream = 0; stream <= 1; stream++) {
            Due.same(when + ": store " + stream, Due.store(x, stream), model.storedAll(stream));
        }
    }

    /** The document once more, over lists and without bounds. */
    private static final class Model {
        private static final Comparator<List<Integer>> ROW_ORDER =
            Comparator.<List<Integer>>comparingInt(row -> row.get(0))
                .thenComparingInt(row -> row.get(1))
                .thenComparingInt(row -> row.get(2));

        private final int cap;
        private final int[] infos = new int[22];
        private final List<List<int[]>> stores = new ArrayList<>();
        private List<List<Integer>> out = List.of();
        private List<List<Integer>> relation = List.of();

        Model(int cap) {
            this.cap = Math.max(2, Math.min(12, cap));
            reset();
        }

        int reset() {
            System.arraycopy(Due.defaults(cap), 0, infos, 0, infos.length);
            clear();
            return 0;
        }

        private void clear() {
            infos[0] = 0;
            stores.clear();
            stores.add(new ArrayList<>());
            stores.add(new ArrayList<>());
            out = List.of();
            relation = List.of();
        }

        private boolean running() {
            return infos[1] == 1;
        }

        private static boolean outside(int number, int low, int high) {
            return number < low || number > high;
        }

        int setWindow(int stream, int kind, int size) {
            if (running()) {
                return -1;
            }
            if (outside(stream, 0, 1) || outside(kind, 1, 2) || outside(size, 1, kind == 1 ? 64 : cap)) {
                return -2;
            }
            infos[6 + 2 * stream] = kind;
            infos[7 + 2 * stream] = size;
            return 0;
        }

        int setFilter(int stream, int field, int op, int constant) {
            if (running()) {
                return -1;
            }
            if (outside(stream, 0, 1) || outside(op, 0, 4) || op != 0 && outside(field, 0, 1)) {
                return -2;
            }
            infos[10 + 3 * stream] = op;
            infos[11 + 3 * stream] = op == 0 ? 0 : field;
            infos[12 + 3 * stream] = op == 0 ? 0 : constant;
            return 0;
        }

        private int setClause(int code, int value, int low, int high) {
            if (running()) {
                return -1;
            }
            if (outside(value, low, high)) {
                return -2;
            }
            infos[code] = value;
            return 0;
        }

        int setJoin(int on) {
            return setClause(16, on, 0, 1);
        }

        int setProject(int mask) {
            return setClause(17, mask, 1, 7);
        }

        int setOutput(int kind) {
            return setClause(20, kind, 1, 3);
        }

        int setAggregate(int kind, int column) {
            if (!running() && kind == 2 && outside(column, 1, 2)) {
                return -2;
            }
            int answer = setClause(18, kind, 0, 2);
            if (answer == 0) {
                infos[19] = kind == 2 ? column : 0;
            }
            return answer;
        }

        int compile() {
            if (running()) {
                return -1;
            }
            if (infos[18] == 2 && infos[19] == 2 && infos[16] == 0) {
                return -4;
            }
            infos[1] = 1;
            clear();
            return 0;
        }

        int arrive(int stream, int key, int value) {
            if (!running()) {
                return -1;
            }
            if (outside(stream, 0, 1)) {
                return -2;
            }
            if (stream == 1 && infos[16] == 0) {
                return -5;
            }
            if (outside(key, 0, 15) || outside(value, 0, 255)) {
                return -2;
            }
            List<int[]> store = stores.get(stream);
            boolean range = infos[6 + 2 * stream] == 1;
            if (range && store.size() == cap) {
                return -3;
            }
            if (!range && store.size() == infos[7 + 2 * stream]) {
                store.remove(0);
            }
            store.add(new int[] {infos[0], key, value});
            return 0;
        }

        int step() {
            if (!running()) {
                return -1;
            }
            List<List<Integer>> next = evaluated();
            if (infos[20] == 1) {
                out = minus(next, relation);
            } else if (infos[20] == 2) {
                out = minus(relation, next);
            } else {
                out = next;
            }
            relation = next;
            infos[0]++;
            for (int stream = 0; stream <= 1; stream++) {
                int oldest = infos[0] - infos[7 + 2 * stream];
                if (infos[6 + 2 * stream] == 1) {
                    stores.get(stream).removeIf(tuple -> tuple[0] <= oldest);
                }
            }
            return out.size();
        }

        private static List<List<Integer>> minus(List<List<Integer>> rows, List<List<Integer>> removed) {
            List<List<Integer>> rest = new ArrayList<>(rows);
            for (List<Integer> row : removed) {
                rest.remove(row);
            }
            return rest;
        }

        private List<int[]> passing(int stream) {
            List<int[]> passing = new ArrayList<>();
            int constant = infos[12 + 3 * stream];
            for (int[] tuple : stores.get(stream)) {
                int tested = tuple[1 + infos[11 + 3 * stream]];
                boolean[] results = {true, tested == constant, tested != constant,
                    tested < constant, tested > constant};
                if (results[infos[10 + 3 * stream]]) {
                    passing.add(tuple);
                }
            }
            return passing;
        }

        private List<int[]> base() {
            List<int[]> rows = new ArrayList<>();
            for (int[] x : passing(0)) {
                if (infos[16] == 0) {
                    rows.add(new int[] {x[1], x[2], 0});
                    continue;
                }
                for (int[] y : passing(1)) {
                    if (x[1] == y[1]) {
                        rows.add(new int[] {x[1], x[2], y[2]});
                    }
                }
            }
            return rows;
        }

        private List<int[]> grouped(List<int[]> rows) {
            if (infos[18] == 0) {
                return rows;
            }
            Map<Integer, Integer> results = new TreeMap<>();
            for (int[] row : rows) {
                results.merge(row[0], infos[18] == 1 ? 1 : row[infos[19]], Integer::sum);
            }
            List<int[]> groups = new ArrayList<>();
            results.forEach((key, result) -> groups.add(new int[] {key, result, 0}));
            return groups;
        }

        private List<List<Integer>> evaluated() {
            List<List<Integer>> result = new ArrayList<>();
            int mask = infos[17];
            for (int[] row : grouped(base())) {
                result.add(List.of(
                    mask % 2 == 1 ? row[0] : 0,
                    mask / 2 % 2 == 1 ? row[1] : 0,
                    mask / 4 == 1 ? row[2] : 0));
            }
            result.sort(ROW_ORDER);
            return result;
        }

        int info(int what) {
            switch (what) {
                case 2: return out.size();
                case 3: return relation.size();
                case 4: return stores.get(0).size();
                case 5: return stores.get(1).size();
                default: return what < 0 || what > 21 ? -1 : infos[what];
            }
        }

        List<Integer> storedAll(int stream) {
            List<Integer> all = new ArrayList<>();
            for (int[] tuple : stores.get(stream)) {
                all.add(tuple[0] * 4096 + tuple[1] * 256 + tuple[2]);
            }
            return all;
        }
    }
}
