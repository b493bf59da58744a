/** One continuous query over two windowed streams, as the promises of DOC.md ask. */
public final class ContinuousQuery {
    public static final int OK = 0;
    public static final int ERR_PHASE = -1;
    public static final int ERR_ARG = -2;
    public static final int ERR_FULL = -3;
    public static final int ERR_QUERY = -4;
    public static final int ERR_UNUSED = -5;

    public static final int PHASE_CONFIG = 0;
    public static final int PHASE_RUNNING = 1;
    public static final int WIN_RANGE = 1;
    public static final int WIN_ROWS = 2;
    public static final int FIELD_KEY = 0;
    public static final int FIELD_VALUE = 1;
    public static final int OP_NONE = 0;
    public static final int OP_EQ = 1;
    public static final int OP_NE = 2;
    public static final int OP_LT = 3;
    public static final int OP_GT = 4;
    public static final int AGG_NONE = 0;
    public static final int AGG_COUNT = 1;
    public static final int AGG_SUM = 2;
    public static final int OUT_ISTREAM = 1;
    public static final int OUT_DSTREAM = 2;
    public static final int OUT_RSTREAM = 3;
    public static final int ROW_OUT = 0;
    public static final int ROW_REL = 1;

    public static final int INFO_NOW = 0;
    public static final int INFO_PHASE = 1;
    public static final int INFO_OUT_COUNT = 2;
    public static final int INFO_REL_COUNT = 3;
    public static final int INFO_HELD0 = 4;
    public static final int INFO_HELD1 = 5;
    public static final int INFO_WIN_KIND0 = 6;
    public static final int INFO_WIN_SIZE0 = 7;
    public static final int INFO_WIN_KIND1 = 8;
    public static final int INFO_WIN_SIZE1 = 9;
    public static final int INFO_FILTER_OP0 = 10;
    public static final int INFO_FILTER_FIELD0 = 11;
    public static final int INFO_FILTER_CONST0 = 12;
    public static final int INFO_FILTER_OP1 = 13;
    public static final int INFO_FILTER_FIELD1 = 14;
    public static final int INFO_FILTER_CONST1 = 15;
    public static final int INFO_JOIN = 16;
    public static final int INFO_PROJECT = 17;
    public static final int INFO_AGG = 18;
    public static final int INFO_AGG_COL = 19;
    public static final int INFO_OUTPUT = 20;
    public static final int INFO_CAP = 21;

    private static final int STREAMS = 2;
    private static final int MIN_CAP = 2;
    private static final int MAX_CAP = 12;
    private static final int MAX_RANGE = 64;
    private static final int MAX_KEY = 15;
    private static final int MAX_VALUE = 255;
    private static final int ALL_COLUMNS = 7;

    // Both stores share one array, S1 from MAX_CAP on, since arrays have one dimension only.
    private static final int STORE_LENGTH = 24;

    // A join of two full stores that all share one key: MAX_CAP * MAX_CAP pairs.
    private static final int MAX_ROWS = 144;

    // A row is packed into one int, column 0 highest, so that the order of rows is the order
    // of ints and equal rows are equal ints. Column 1 needs 16 bits for the greatest sum,
    // MAX_ROWS * MAX_VALUE = 36720; columns 0 and 2 never exceed MAX_KEY and MAX_VALUE.
    private static final int SHIFT0 = 24;
    private static final int SHIFT1 = 8;
    private static final int BITS0 = 0x0F000000;
    private static final int BITS1 = 0x00FFFF00;
    private static final int BITS2 = 0x000000FF;

    private final int cap;
    private int phase;
    private int now;

    private final int[] windowKind = new int[STREAMS];
    private final int[] windowSize = new int[STREAMS];
    private final int[] filterOp = new int[STREAMS];
    private final int[] filterField = new int[STREAMS];
    private final int[] filterConstant = new int[STREAMS];
    private int join;
    private int project;
    private int aggregate;
    private int aggregateColumn;
    private int output;

    private final int[] held = new int[STREAMS];
    private final int[] times = new int[STORE_LENGTH];
    private final int[] keys = new int[STORE_LENGTH];
    private final int[] values = new int[STORE_LENGTH];

    private final int[] baseRows = new int[MAX_ROWS];
    private int baseCount;
    private final int[] nextRows = new int[MAX_ROWS];
    private int nextCount;
    private final int[] relationRows = new int[MAX_ROWS];
    private int relationCount;
    private final int[] outRows = new int[MAX_ROWS];
    private int outCount;

    public ContinuousQuery(int cap) {
        this.cap = clampedCap(cap);
        restoreDefaults();
    }

    public int reset() {
        restoreDefaults();
        return OK;
    }

    public int setWindow(int stream, int kind, int size) {
        if (phase != PHASE_CONFIG) {
            return ERR_PHASE;
        }
        if (!isStream(stream)) {
            return ERR_ARG;
        }
        if (kind != WIN_RANGE && kind != WIN_ROWS) {
            return ERR_ARG;
        }
        int greatest = kind == WIN_RANGE ? MAX_RANGE : cap;
        if (size < 1 || size > greatest) {
            return ERR_ARG;
        }
        windowKind[stream] = kind;
        windowSize[stream] = size;
        return OK;
    }

    public int setFilter(int stream, int field, int op, int constant) {
        if (phase != PHASE_CONFIG) {
            return ERR_PHASE;
        }
        if (!isStream(stream)) {
            return ERR_ARG;
        }
        if (op < OP_NONE || op > OP_GT) {
            return ERR_ARG;
        }
        if (op != OP_NONE && field != FIELD_KEY && field != FIELD_VALUE) {
            return ERR_ARG;
        }
        filterOp[stream] = op;
        filterField[stream] = op == OP_NONE ? FIELD_KEY : field;
        filterConstant[stream] = op == OP_NONE ? 0 : constant;
        return OK;
    }

    public int setJoin(int on) {
        if (phase != PHASE_CONFIG) {
            return ERR_PHASE;
        }
        if (on != 0 && on != 1) {
            return ERR_ARG;
        }
        join = on;
        return OK;
    }

    public int setProject(int mask) {
        if (phase != PHASE_CONFIG) {
            return ERR_PHASE;
        }
        if (mask < 1 || mask > ALL_COLUMNS) {
            return ERR_ARG;
        }
        project = mask;
        return OK;
    }

    public int setAggregate(int kind, int column) {
        if (phase != PHASE_CONFIG) {
            return ERR_PHASE;
        }
        if (kind < AGG_NONE || kind > AGG_SUM) {
            return ERR_ARG;
        }
        if (kind == AGG_SUM && column != 1 && column != 2) {
            return ERR_ARG;
        }
        aggregate = kind;
        aggregateColumn = kind == AGG_SUM ? column : 0;
        return OK;
    }

    public int setOutput(int kind) {
        if (phase != PHASE_CONFIG) {
            return ERR_PHASE;
        }
        if (kind < OUT_ISTREAM || kind > OUT_RSTREAM) {
            return ERR_ARG;
        }
        output = kind;
        return OK;
    }

    public int compile() {
        if (phase != PHASE_CONFIG) {
            return ERR_PHASE;
        }
        if (aggregate == AGG_SUM && aggregateColumn == 2 && join == 0) {
            return ERR_QUERY;
        }
        phase = PHASE_RUNNING;
        clearRun();
        return OK;
    }

    public int arrive(int stream, int key, int value) {
        if (phase != PHASE_RUNNING) {
            return ERR_PHASE;
        }
        if (!isStream(stream)) {
            return ERR_ARG;
        }
        if (stream == 1 && join == 0) {
            return ERR_UNUSED;
        }
        if (key < 0 || key > MAX_KEY || value < 0 || value > MAX_VALUE) {
            return ERR_ARG;
        }
        if (windowKind[stream] == WIN_RANGE && held[stream] >= cap) {
            return ERR_FULL;
        }
        if (windowKind[stream] == WIN_ROWS && held[stream] >= windowSize[stream]) {
            removeOldest(stream);
        }
        append(stream, key, value);
        return OK;
    }

    public int step() {
        if (phase != PHASE_RUNNING) {
            return ERR_PHASE;
        }
        collectBaseRows();
        deriveNextRows();
        emitRows();
        replaceRelation();
        now = now + 1;
        expire(0);
        expire(1);
        return outCount;
    }

    public int info(int what) {
        switch (what) {
            case INFO_NOW: return now;
            case INFO_PHASE: return phase;
            case INFO_OUT_COUNT: return outCount;
            case INFO_REL_COUNT: return relationCount;
            case INFO_HELD0: return held[0];
            case INFO_HELD1: return held[1];
            case INFO_WIN_KIND0: return windowKind[0];
            case INFO_WIN_SIZE0: return windowSize[0];
            case INFO_WIN_KIND1: return windowKind[1];
            case INFO_WIN_SIZE1: return windowSize[1];
            case INFO_FILTER_OP0: return filterOp[0];
            case INFO_FILTER_FIELD0: return filterField[0];
            case INFO_FILTER_CONST0: return filterConstant[0];
            case INFO_FILTER_OP1: return filterOp[1];
            case INFO_FILTER_FIELD1: return filterField[1];
            case INFO_FILTER_CONST1: return filterConstant[1];
            case INFO_JOIN: return join;
            case INFO_PROJECT: return project;
            case INFO_AGG: return aggregate;
            case INFO_AGG_COL: return aggregateColumn;
            case INFO_OUTPUT: return output;
            case INFO_CAP: return cap;
            default: return -1;
        }
    }

    public int row(int which, int i, int col) {
        if (which != ROW_OUT && which != ROW_REL) {
            return -1;
        }
        int count = which == ROW_OUT ? outCount : relationCount;
        if (i < 0 || i >= count || col < 0 || col > 2) {
            return -1;
        }
        int packed = which == ROW_OUT ? outRows[i] : relationRows[i];
        return columnOf(packed, col);
    }

    public int stored(int stream, int i) {
        if (!isStream(stream) || i < 0 || i >= held[stream]) {
            return -1;
        }
        int place = placeOf(stream, i);
        return times[place] * 4096 + keys[place] * 256 + values[place];
    }

    private static int clampedCap(int given) {
        if (given < MIN_CAP) {
            return MIN_CAP;
        }
        return given > MAX_CAP ? MAX_CAP : given;
    }

    private void restoreDefaults() {
        phase = PHASE_CONFIG;
        for (int stream = 0; stream < STREAMS; stream++) {
            windowKind[stream] = WIN_ROWS;
            windowSize[stream] = cap;
            filterOp[stream] = OP_NONE;
            filterField[stream] = FIELD_KEY;
            filterConstant[stream] = 0;
        }
        join = 0;
        project = ALL_COLUMNS;
        aggregate = AGG_NONE;
        aggregateColumn = 0;
        output = OUT_ISTREAM;
        clearRun();
    }

    private void clearRun() {
        now = 0;
        held[0] = 0;
        held[1] = 0;
        outCount = 0;
        relationCount = 0;
    }

    private static boolean isStream(int stream) {
        return stream == 0 || stream == 1;
    }

    private static int placeOf(int stream, int i) {
        return stream * MAX_CAP + i;
    }

    private void append(int stream, int key, int value) {
        int place = placeOf(stream, held[stream]);
        times[place] = now;
        keys[place] = key;
        values[place] = value;
        held[stream]++;
    }

    private void removeOldest(int stream) {
        for (int i = 1; i < held[stream]; i++) {
            moveTuple(stream, i, i - 1);
        }
        held[stream]--;
    }

    private void moveTuple(int stream, int from, int to) {
        int source = placeOf(stream, from);
        int target = placeOf(stream, to);
        times[target] = times[source];
        keys[target] = keys[source];
        values[target] = values[source];
    }

    // Every tuple is looked at, not only the oldest ones: once now has wrapped around, the
    // instants in a store no longer ascend.
    private void expire(int stream) {
        if (windowKind[stream] != WIN_RANGE) {
            return;
        }
        int lastExpired = now - windowSize[stream];
        int kept = 0;
        for (int i = 0; i < held[stream]; i++) {
            int place = placeOf(stream, i);
            if (times[place] > lastExpired) {
                moveTuple(stream, i, kept);
                kept++;
            }
        }
        held[stream] = kept;
    }

    private void collectBaseRows() {
        baseCount = 0;
        for (int i = 0; i < held[0]; i++) {
            if (!passes(0, i)) {
                continue;
            }
            int place = placeOf(0, i);
            if (join == 0) {
                addBaseRow(keys[place], values[place], 0);
            } else {
                joinWithS1(keys[place], values[place]);
            }
        }
    }

    private void joinWithS1(int key, int value) {
        for (int i = 0; i < held[1]; i++) {
            int place = placeOf(1, i);
            if (keys[place] == key && passes(1, i)) {
                addBaseRow(key, value, values[place]);
            }
        }
    }

    private boolean passes(int stream, int i) {
        int place = placeOf(stream, i);
        int tested = filterField[stream] == FIELD_KEY ? keys[place] : values[place];
        int constant = filterConstant[stream];
        switch (filterOp[stream]) {
            case OP_EQ: return tested == constant;
            case OP_NE: return tested != constant;
            case OP_LT: return tested < constant;
            case OP_GT: return tested > constant;
            default: return true;
        }
    }

    private void addBaseRow(int column0, int column1, int column2) {
        baseRows[baseCount] = packRow(column0, column1, column2);
        baseCount++;
    }

    private void deriveNextRows() {
        if (aggregate == AGG_NONE) {
            takeBaseRows();
        } else {
            groupBaseRows();
        }
        projectNextRows();
        sortNextRows();
    }

    private void takeBaseRows() {
        for (int i = 0; i < baseCount; i++) {
            nextRows[i] = baseRows[i];
        }
        nextCount = baseCount;
    }

    private void groupBaseRows() {
        nextCount = 0;
        for (int key = 0; key <= MAX_KEY; key++) {
            groupKey(key);
        }
    }

    private void groupKey(int key) {
        int count = 0;
        int sum = 0;
        for (int i = 0; i < baseCount; i++) {
            if (columnOf(baseRows[i], 0) == key) {
                count++;
                sum += columnOf(baseRows[i], aggregateColumn);
            }
        }
        if (count > 0) {
            int result = aggregate == AGG_COUNT ? count : sum;
            nextRows[nextCount] = packRow(key, result, 0);
            nextCount++;
        }
    }

    private void projectNextRows() {
        int bits = 0;
        bits |= (project & 1) != 0 ? BITS0 : 0;
        bits |= (project & 2) != 0 ? BITS1 : 0;
        bits |= (project & 4) != 0 ? BITS2 : 0;
        for (int i = 0; i < nextCount; i++) {
            nextRows[i] &= bits;
        }
    }

    private void sortNextRows() {
        for (int i = 1; i < nextCount; i++) {
            int inserted = nextRows[i];
            int target = i;
            while (target > 0 && nextRows[target - 1] > inserted) {
                nextRows[target] = nextRows[target - 1];
                target--;
            }
            nextRows[target] = inserted;
        }
    }

    private void emitRows() {
        if (output == OUT_ISTREAM) {
            emitDifference(nextRows, nextCount, relationRows, relationCount);
        } else if (output == OUT_DSTREAM) {
            emitDifference(relationRows, relationCount, nextRows, nextCount);
        } else {
            emitDifference(nextRows, nextCount, relationRows, 0);
        }
    }

    // Both lists are sorted, so one pass over each pairs off the rows that cancel out.
    private void emitDifference(int[] rows, int count, int[] removed, int removedCount) {
        outCount = 0;
        int r = 0;
        for (int i = 0; i < count; i++) {
            while (r < removedCount && removed[r] < rows[i]) {
                r++;
            }
            if (r < removedCount && removed[r] == rows[i]) {
                r++;
            } else {
                outRows[outCount] = rows[i];
                outCount++;
            }
        }
    }

    private void replaceRelation() {
        for (int i = 0; i < nextCount; i++) {
            relationRows[i] = nextRows[i];
        }
        relationCount = nextCount;
    }

    private static int packRow(int column0, int column1, int column2) {
        return column0 << SHIFT0 | column1 << SHIFT1 | column2;
    }

    private static int columnOf(int packed, int col) {
        if (col == 0) {
            return (packed & BITS0) >> SHIFT0;
        }
        if (col == 1) {
            return (packed & BITS1) >> SHIFT1;
        }
        return packed & BITS2;
    }
}
