/** Promise 8, setOutput: each sentence that names a boundary case. */
public final class Promise08EdgesTest {
    public static void main(String[] args) {
        Edge.holds("phase not CONFIG -> ERR_PHASE", Promise08EdgesTest::runningIsRefused);
        Edge.holds("kind outside 1..3 -> ERR_ARG", Promise08EdgesTest::wrongKindIsRefused);
        Edge.holds("otherwise it stores kind and answers OK.", Promise08EdgesTest::everyKindIsStored);
        Edge.holds("Nothing else changes.", Promise08EdgesTest::nothingElseChanges);
        Due.end();
    }

    private static void runningIsRefused() {
        for (int kind = -1; kind <= 4; kind++) {
            int given = kind;
            Edge.refused("setOutput(" + kind + ")", Edge.PHASE, Edge.running(), x -> x.setOutput(given));
        }
    }

    private static void wrongKindIsRefused() {
        for (int kind : Edge.outside(1, 3)) {
            Edge.refused("setOutput(" + kind + ")", Edge.ARG, Edge.config(), x -> x.setOutput(kind));
        }
    }

    private static void everyKindIsStored() {
        ContinuousQuery x = new ContinuousQuery(3);
        for (int kind : new int[] {1, 2, 3, 3, 2, 1, 3, 1}) {
            Due.due("setOutput(" + kind + ")", x.setOutput(kind), 0);
            Due.due("info(20)", x.info(20), kind);
        }
    }

    private static void nothingElseChanges() {
        Edge.config().forEach((state, maker) -> {
            ContinuousQuery x = maker.get();
            for (int kind : new int[] {3, 1, 2}) {
                int[] before = Due.infos(x);
                x.setOutput(kind);
                Edge.changedOnly("setOutput(" + kind + ") on " + state, x, before, 20, kind);
            }
        });
    }
}
