import java.util.ArrayList;
import java.util.List;

/** Promise 7, setAggregate: each sentence that names a boundary case. */
public final class Promise07EdgesTest {
    public static void main(String[] args) {
        Edge.holds("Phase not CONFIG -> ERR_PHASE.", Promise07EdgesTest::runningIsRefused);
        Edge.holds("kind outside 0..2 -> ERR_ARG.", Promise07EdgesTest::wrongKindIsRefused);
        Edge.holds("kind SUM with column not 1 or 2 -> ERR_ARG.", Promise07EdgesTest::wrongSumIsRefused);
        Edge.holds("Otherwise it stores kind and answers OK.", Promise07EdgesTest::everyKindIsStored);
        Edge.holds("For SUM it also stores column.", Promise07EdgesTest::sumStoresItsColumn);
        Edge.holds("For NONE and COUNT it stores column 0, and the column argument is ignored, so any int is"
            + " accepted there.", Promise07EdgesTest::othersTakeAnyColumn);
        Edge.holds("Nothing else changes.", Promise07EdgesTest::nothingElseChanges);
        Due.end();
    }

    private static String call(int kind, int column) {
        return "setAggregate(" + kind + ", " + column + ")";
    }

    private static void runningIsRefused() {
        for (int kind = -1; kind <= 3; kind++) {
            for (int column = -1; column <= 3; column++) {
                int k = kind;
                int c = column;
                Edge.refused(call(k, c), Edge.PHASE, Edge.running(), x -> x.setAggregate(k, c));
            }
        }
    }

    private static void wrongArguments(int kind, int column) {
        Edge.refused(call(kind, column), Edge.ARG, Edge.config(), x -> x.setAggregate(kind, column));
    }

    private static void wrongKindIsRefused() {
        for (int kind : Edge.outside(0, 2)) {
            wrongArguments(kind, 0);
            wrongArguments(kind, 1);
            wrongArguments(kind, 2);
        }
    }

    private static void wrongSumIsRefused() {
        for (int column : Edge.outside(1, 2)) {
            wrongArguments(2, column);
        }
    }

    private static void everyKindIsStored() {
        ContinuousQuery x = new ContinuousQuery(3);
        for (int kind : new int[] {0, 1, 2, 1, 0, 2, 0}) {
            Due.due(call(kind, 1), x.setAggregate(kind, 1), 0);
            Due.due("info(18)", x.info(18), kind);
        }
    }

    private static void sumStoresItsColumn() {
        ContinuousQuery x = new ContinuousQuery(3);
        for (int column : new int[] {1, 2, 2, 1}) {
            Due.due(call(2, column), x.setAggregate(2, column), 0);
            Due.due("info(19)", x.info(19), column);
        }
    }

    private static List<Integer> anyColumn() {
        List<Integer> columns = new ArrayList<>(Edge.outside(0, 2));
        columns.addAll(List.of(0, 1, 2));
        return columns;
    }

    private static void othersTakeAnyColumn() {
        for (int kind = 0; kind <= 1; kind++) {
            for (int column : anyColumn()) {
                ContinuousQuery x = new ContinuousQuery(3);
                Due.due(call(kind, column), x.setAggregate(kind, column), 0);
                Due.due("info(19) of a new object after it", x.info(19), 0);
                x.setAggregate(2, 2);
                Due.due(call(kind, column) + " after SUM", x.setAggregate(kind, column), 0);
                Due.due("info(18) after SUM", x.info(18), kind);
                Due.due("info(19) after SUM", x.info(19), 0);
                Due.due("compile() without join", x.compile(), 0);
            }
        }
    }

    private static void nothingElseChanges() {
        Edge.config().forEach((state, maker) -> {
            ContinuousQuery x = maker.get();
            for (int kind : new int[] {0, 1, 2, 0, 2, 1}) {
                for (int column = 1; column <= 2; column++) {
                    int[] before = Due.infos(x);
                    x.setAggregate(kind, column);
                    Edge.changedOnly(call(kind, column) + " on " + state, x, before,
                        18, kind, 19, kind == 2 ? column : 0);
                }
            }
        });
    }
}
