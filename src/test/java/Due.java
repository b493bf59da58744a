import java.util.ArrayList;
import java.util.List;

/** What the tests share: comparing an answer with the one that is due, and reading an object whole. */
final class Due {
    private static final int DID_NOT_END = 3;
    private static final long LONGEST_MILLIS = 10 * 60 * 1000;

    private static int wrong = 0;

    // A call that never ends must fail its test, not hold it up for good.
    static {
        Thread watch = new Thread(Due::endAfterTheLongestTime);
        watch.setDaemon(true);
        watch.start();
    }

    private Due() {
    }

    private static void endAfterTheLongestTime() {
        try {
            Thread.sleep(LONGEST_MILLIS);
        } catch (InterruptedException interrupted) {
            return;
        }
        System.out.println("a call does not end");
        Runtime.getRuntime().halt(DID_NOT_END);
    }

    static void due(String call, int got, int want) {
        if (got != want) {
            wrong++;
            System.out.println(call + " answered " + got + ", due is " + want);
        }
    }

    static void same(String what, Object got, Object want) {
        if (!got.equals(want)) {
            wrong++;
            System.out.println(what + " is " + got + ", due is " + want);
        }
    }

    /** How many answers were wrong so far. */
    static int wrong() {
        return wrong;
    }

    /** Ends the program, with exit code 1 if an answer was wrong. */
    static void end() {
        System.out.println(wrong == 0 ? "all answers are as due" : wrong + " answers are not as due");
        if (wrong != 0) {
            System.exit(1);
        }
    }

    /** A call that the object must refuse with this code and without a change. */
    static void refused(String call, ContinuousQuery x, int want, Call made) {
        String before = state(x);
        due(call, made.answer(), want);
        same("the state after " + call, state(x), before);
    }

    interface Call {
        int answer();
    }

    /** The answers of info for the codes 0 to 21. */
    static int[] infos(ContinuousQuery x) {
        int[] infos = new int[22];
        for (int what = 0; what < infos.length; what++) {
            infos[what] = x.info(what);
        }
        return infos;
    }

    static void infosAre(String when, ContinuousQuery x, int[] want) {
        for (int what = 0; what < want.length; what++) {
            due(when + ": info(" + what + ")", x.info(what), want[what]);
        }
    }

    /** What info answers for a new object of this (clamped) cap, by Promise 1. */
    static int[] defaults(int cap) {
        return new int[] {
            0, 0, 0, 0, 0, 0,
            2, cap, 2, cap,
            0, 0, 0, 0, 0, 0,
            0, 7, 0, 0, 1, cap};
    }

    static List<List<Integer>> rows(ContinuousQuery x, int which) {
        int count = x.info(which == 0 ? 2 : 3);
        List<List<Integer>> rows = new ArrayList<>();
        for (int i = 0; i < count; i++) {
            rows.add(List.of(x.row(which, i, 0), x.row(which, i, 1), x.row(which, i, 2)));
        }
        return rows;
    }

    static List<Integer> store(ContinuousQuery x, int stream) {
        List<Integer> tuples = new ArrayList<>();
        for (int i = 0; i < x.info(4 + stream); i++) {
            tuples.add(x.stored(stream, i));
        }
        return tuples;
    }

    /** Everything a caller can read from the object. */
    static String state(ContinuousQuery x) {
        StringBuilder text = new StringBuilder();
        for (int info : infos(x)) {
            text.append(info).append(' ');
        }
        return text.toString() + rows(x, 0) + rows(x, 1) + store(x, 0) + store(x, 1);
    }

    /** The rows of a list, written like "1,2,3 4,5,6". */
    static void rowsAre(String when, ContinuousQuery x, int which, String want) {
        List<String> got = new ArrayList<>();
        for (List<Integer> row : rows(x, which)) {
            got.add(row.get(0) + "," + row.get(1) + "," + row.get(2));
        }
        same(when + ": row list " + which, String.join(" ", got), want);
    }
}
