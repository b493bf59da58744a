/** Promise 6, setProject: each sentence that names a boundary case. */
public final class Promise06EdgesTest {
    public static void main(String[] args) {
        Edge.holds("phase not CONFIG -> ERR_PHASE", Promise06EdgesTest::runningIsRefused);
        Edge.holds("mask outside 1..7 -> ERR_ARG", Promise06EdgesTest::wrongMaskIsRefused);
        Edge.holds("otherwise it stores mask and answers OK.", Promise06EdgesTest::everyMaskIsStored);
        Edge.holds("Nothing else changes.", Promise06EdgesTest::nothingElseChanges);
        Due.end();
    }

    private static void runningIsRefused() {
        for (int mask = -1; mask <= 8; mask++) {
            int given = mask;
            Edge.refused("setProject(" + mask + ")", Edge.PHASE, Edge.running(), x -> x.setProject(given));
        }
    }

    private static void wrongMaskIsRefused() {
        for (int mask : Edge.outside(1, 7)) {
            Edge.refused("setProject(" + mask + ")", Edge.ARG, Edge.config(), x -> x.setProject(mask));
        }
    }

    private static void everyMaskIsStored() {
        for (int mask = 1; mask <= 7; mask++) {
            ContinuousQuery x = new ContinuousQuery(3);
            x.setProject(2);
            Due.due("setProject(" + mask + ")", x.setProject(mask), 0);
            Due.due("info(17)", x.info(17), mask);
            x.compile();
            Due.due("info(17) after compile", x.info(17), mask);
        }
    }

    private static void nothingElseChanges() {
        Edge.config().forEach((state, maker) -> {
            ContinuousQuery x = maker.get();
            for (int mask = 1; mask <= 7; mask++) {
                int[] before = Due.infos(x);
                x.setProject(mask);
                Edge.changedOnly("setProject(" + mask + ") on " + state, x, before, 17, mask);
            }
        });
    }
}
