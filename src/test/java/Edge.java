import java.util.ArrayList;
import java.util.LinkedHashMap;
import java.util.LinkedHashSet;
import java.util.List;
import java.util.Map;
import java.util.Set;
import java.util.function.Supplier;
import java.util.function.ToIntFunction;

/**
 * What the tests of the boundary cases share. Each of them tests one sentence of the document by
 * itself and names that sentence if it is broken.
 */
final class Edge {
    static final int PHASE = -1;
    static final int ARG = -2;
    static final int FULL = -3;
    static final int QUERY = -4;
    static final int UNUSED = -5;
    static final int RANGE = 1;
    static final int ROWS = 2;
    static final int MIN = Integer.MIN_VALUE;
    static final int MAX = Integer.MAX_VALUE;

    private Edge() {
    }

    static void holds(String sentence, Runnable test) {
        int before = Due.wrong();
        try {
            test.run();
        } catch (RuntimeException thrown) {
            Due.same("what a call threw", thrown, "nothing");
        }
        if (Due.wrong() != before) {
            System.out.println("BROKEN: " + sentence);
        }
    }

    /**
     * Numbers outside low..high: the nearest ones, the farthest ones, round ones, and those that
     * fall into low..high if high bits or the sign are lost.
     */
    static List<Integer> outside(int low, int high) {
        Set<Integer> numbers = new LinkedHashSet<>(List.of(
            low - 1, low - 2, high + 1, high + 2, -low, -high, MIN, MIN + 1, MAX - 1, MAX));
        for (int bit = 3; bit < 32; bit++) {
            numbers.add(low + (1 << bit));
            numbers.add(high + (1 << bit));
            numbers.add(low - (1 << bit));
            numbers.add(high - (1 << bit));
        }
        for (int distance = 1; distance <= 40; distance++) {
            numbers.add(low - distance);
            numbers.add(high + distance);
        }
        for (int round = 10; round <= 100_000_000; round *= 10) {
            numbers.add(round);
            numbers.add(-round);
        }
        numbers.removeIf(number -> number >= low && number <= high);
        return new ArrayList<>(numbers);
    }

    /** In each of the states the call answers this negative code and changes nothing. */
    static void refused(String call, int code, Map<String, Supplier<ContinuousQuery>> states,
            ToIntFunction<ContinuousQuery> made) {
        states.forEach((state, maker) -> refusedBy(call + " on " + state, code, maker, made));
    }

    static void refusedBy(String call, int code, Supplier<ContinuousQuery> maker,
            ToIntFunction<ContinuousQuery> made) {
        Due.same("a negative code for " + call, code < 0, true);
        changesNothing(call, code, maker, made);
    }

    // A twin that never got the call shows a change that only later answers tell.
    static void changesNothing(String call, int answer, Supplier<ContinuousQuery> maker,
            ToIntFunction<ContinuousQuery> made) {
        ContinuousQuery x = maker.get();
        ContinuousQuery twin = maker.get();
        String before = Due.state(x);
        Due.due(call, made.applyAsInt(x), answer);
        Due.same("the state after " + call, Due.state(x), before);
        Due.same("what follows " + call, whatFollows(x), whatFollows(twin));
    }

    /** The answers of a run that goes on from here, ends with a reset and begins once more. */
    static String whatFollows(ContinuousQuery x) {
        StringBuilder answers = new StringBuilder();
        answers.append(x.compile()).append(' ');
        goOn(x, answers);
        answers.append(x.reset()).append(' ').append(Due.state(x)).append(x.compile()).append(' ');
        goOn(x, answers);
        return answers.toString();
    }

    private static void goOn(ContinuousQuery x, StringBuilder answers) {
        for (int i = 0; i < 4; i++) {
            answers.append(x.arrive(0, 1 + i % 2, i)).append(' ');
            answers.append(x.arrive(1, 1 + i % 2, 10 + i)).append(' ');
            answers.append(x.step()).append(' ').append(Due.state(x));
        }
    }

    /** Objects in phase CONFIG, each in another state. */
    static Map<String, Supplier<ContinuousQuery>> config() {
        Map<String, Supplier<ContinuousQuery>> states = new LinkedHashMap<>();
        states.put("a new object", () -> new ContinuousQuery(4));
        states.put("an object with every clause set", () -> everyClauseSet(5));
        states.put("an object with every clause set in another order", Edge::everyClauseSetBackwards);
        states.put("an object after reset", Edge::afterReset);
        states.put("an object with a wrong query", Edge::wrongQuery);
        return states;
    }

    /** Objects in phase RUNNING, each in another state. */
    static Map<String, Supplier<ContinuousQuery>> running() {
        Map<String, Supplier<ContinuousQuery>> states = new LinkedHashMap<>();
        states.put("a query just compiled", Edge::justCompiled);
        states.put("a query without join", Edge::withoutJoin);
        states.putAll(joined());
        return states;
    }

    static Map<String, Supplier<ContinuousQuery>> allStates() {
        Map<String, Supplier<ContinuousQuery>> states = new LinkedHashMap<>(config());
        states.putAll(running());
        return states;
    }

    /** Running objects with join on, whose stores are full. */
    static Map<String, Supplier<ContinuousQuery>> joined() {
        Map<String, Supplier<ContinuousQuery>> states = new LinkedHashMap<>();
        states.put("a join of full ROWS stores", Edge::fullRows);
        states.put("a join of full RANGE stores", Edge::fullRanges);
        return states;
    }

    static ContinuousQuery everyClauseSet(int cap) {
        ContinuousQuery x = new ContinuousQuery(cap);
        Due.due("setWindow(0, 1, 9)", x.setWindow(0, RANGE, 9), 0);
        Due.due("setWindow(1, 2, 1)", x.setWindow(1, ROWS, 1), 0);
        Due.due("setFilter(0, 1, 4, -3)", x.setFilter(0, 1, 4, -3), 0);
        Due.due("setFilter(1, 1, 2, 77)", x.setFilter(1, 1, 2, 77), 0);
        Due.due("setJoin(1)", x.setJoin(1), 0);
        Due.due("setProject(3)", x.setProject(3), 0);
        Due.due("setAggregate(2, 2)", x.setAggregate(2, 2), 0);
        Due.due("setOutput(2)", x.setOutput(2), 0);
        return x;
    }

    // A setter that touches another clause is seen only where that clause was set after it.
    private static ContinuousQuery everyClauseSetBackwards() {
        ContinuousQuery x = new ContinuousQuery(7);
        Due.due("setOutput(3)", x.setOutput(3), 0);
        Due.due("setAggregate(2, 1)", x.setAggregate(2, 1), 0);
        Due.due("setProject(6)", x.setProject(6), 0);
        Due.due("setJoin(1)", x.setJoin(1), 0);
        Due.due("setFilter(1, 1, 3, 200)", x.setFilter(1, 1, 3, 200), 0);
        Due.due("setFilter(0, 1, 1, 2)", x.setFilter(0, 1, 1, 2), 0);
        Due.due("setWindow(1, 1, 5)", x.setWindow(1, RANGE, 5), 0);
        Due.due("setWindow(0, 2, 6)", x.setWindow(0, ROWS, 6), 0);
        return x;
    }

    private static ContinuousQuery afterReset() {
        ContinuousQuery x = fullRanges();
        Due.due("reset()", x.reset(), 0);
        return x;
    }

    private static ContinuousQuery wrongQuery() {
        ContinuousQuery x = new ContinuousQuery(3);
        Due.due("setAggregate(2, 2)", x.setAggregate(2, 2), 0);
        return x;
    }

    private static ContinuousQuery justCompiled() {
        ContinuousQuery x = new ContinuousQuery(3);
        Due.due("compile()", x.compile(), 0);
        return x;
    }

    static ContinuousQuery withoutJoin() {
        ContinuousQuery x = new ContinuousQuery(4);
        x.setWindow(1, RANGE, 2);
        x.setAggregate(1, 0);
        Due.due("compile()", x.compile(), 0);
        arrivals(x, 0, 3);
        Due.due("step()", x.step(), 1);
        arrivals(x, 0, 2);
        return x;
    }

    /** Three tuples of S0, two of S1, six rows in both lists. */
    static ContinuousQuery fullRows() {
        ContinuousQuery x = new ContinuousQuery(3);
        x.setJoin(1);
        x.setWindow(1, ROWS, 2);
        x.setFilter(0, 1, 2, 99);
        x.setOutput(3);
        Due.due("compile()", x.compile(), 0);
        Due.due("the first step()", x.step(), 0);
        arrivals(x, 0, 4);
        arrivals(x, 1, 3);
        Due.due("the second step()", x.step(), 6);
        arrivals(x, 0, 1);
        return x;
    }

    /** Two tuples of S0 and of S1; the last step deleted two of four rows. */
    static ContinuousQuery fullRanges() {
        ContinuousQuery x = new ContinuousQuery(2);
        x.setJoin(1);
        x.setWindow(0, RANGE, 3);
        x.setWindow(1, RANGE, 1);
        x.setOutput(2);
        Due.due("compile()", x.compile(), 0);
        arrivals(x, 0, 2);
        arrivals(x, 1, 2);
        Due.due("the first step()", x.step(), 0);
        arrivals(x, 1, 1);
        Due.due("the second step()", x.step(), 2);
        arrivals(x, 1, 2);
        return x;
    }

    /** So many tuples (1, 0), (1, 1), (1, 2) and on. */
    static void arrivals(ContinuousQuery x, int stream, int count) {
        for (int value = 0; value < count; value++) {
            Due.due("arrive(" + stream + ", 1, " + value + ")", x.arrive(stream, 1, value), 0);
        }
    }

    /** After an accepted call exactly these info codes have changed, to these values. */
    static void changedOnly(String call, ContinuousQuery x, int[] before, int... codesAndValues) {
        int[] want = before.clone();
        for (int i = 0; i < codesAndValues.length; i += 2) {
            want[codesAndValues[i]] = codesAndValues[i + 1];
        }
        Due.infosAre("after " + call, x, want);
        Due.same("row lists after " + call, Due.rows(x, 0).size() + Due.rows(x, 1).size(), 0);
        Due.same("stores after " + call, Due.store(x, 0).size() + Due.store(x, 1).size(), 0);
    }
}
