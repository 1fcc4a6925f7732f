public final class PartitionPruner {
    public static final int BAD_KEY = -1;
    public static final int FULL = -2;
    public static final int NO_ROW = -3;
    public static final int BAD_BOUND = -4;
    public static final int NO_PARTITION = -5;

    private static final int MAX_ROWS = 40;
    private static final int MAX_PARTITIONS = 8;
    private static final int MAX_TERMS = 4;
    private static final int TOP_KEY = 255;

    // A row's id is its index in these three, so the smallest free id is the first index not in use.
    private final boolean[] inUse = new boolean[MAX_ROWS];
    private final int[] keys = new int[MAX_ROWS];
    private final int[] values = new int[MAX_ROWS];

    // The lower bounds, rising, the first of them always 0. A row's partition follows from its key
    // and is kept nowhere, so that split, merge and update have no rows to move.
    private final int[] bounds = new int[MAX_PARTITIONS];
    private int partitionCount;

    private final int[] lows = new int[MAX_TERMS];
    private final int[] highs = new int[MAX_TERMS];
    private final int[] leasts = new int[MAX_TERMS];
    private int termCount;

    public PartitionPruner() {
        partitionCount = 1;
        termCount = 0;
    }

    public int insert(int key, int value) {
        if (!isKey(key)) {
            return BAD_KEY;
        }
        int id = smallestFreeId();
        if (id >= MAX_ROWS) {
            return FULL;
        }
        inUse[id] = true;
        keys[id] = key;
        values[id] = value;
        return id;
    }

    public int delete(int id) {
        if (!isRow(id)) {
            return NO_ROW;
        }
        inUse[id] = false;
        return rowCount();
    }

    public int update(int id, int key, int value) {
        if (!isRow(id)) {
            return NO_ROW;
        }
        if (!isKey(key)) {
            return BAD_KEY;
        }
        keys[id] = key;
        values[id] = value;
        return 0;
    }

    public int split(int key) {
        if (key < 1 || key > TOP_KEY) {
            return BAD_BOUND;
        }
        int lower = partitionOf(key);
        if (bounds[lower] == key) {
            return BAD_BOUND;
        }
        if (partitionCount >= MAX_PARTITIONS) {
            return FULL;
        }
        int upper = lower + 1;
        for (int i = partitionCount; i > upper; i--) {
            bounds[i] = bounds[i - 1];
        }
        bounds[upper] = key;
        partitionCount++;
        return upper;
    }

    public int merge(int i) {
        // Not tested with i + 1, which would wrap for the greatest int.
        if (i < 0 || i >= partitionCount - 1) {
            return NO_PARTITION;
        }
        partitionCount--;
        for (int j = i + 1; j < partitionCount; j++) {
            bounds[j] = bounds[j + 1];
        }
        return rowsOfPartition(i);
    }

    public int truncate(int i) {
        if (!isPartition(i)) {
            return NO_PARTITION;
        }
        int gone = 0;
        for (int id = 0; id < MAX_ROWS; id++) {
            if (liesIn(id, i)) {
                inUse[id] = false;
                gone++;
            }
        }
        return gone;
    }

    public void clearTerms() {
        termCount = 0;
    }

    public int term(int lo, int hi, int least) {
        if (termCount >= MAX_TERMS) {
            return FULL;
        }
        lows[termCount] = lo;
        highs[termCount] = hi;
        leasts[termCount] = least;
        termCount++;
        return termCount;
    }

    public int partitions() {
        return partitionCount;
    }

    public int bound(int i) {
        return isPartition(i) ? bounds[i] : NO_PARTITION;
    }

    public int rowsIn(int i) {
        return isPartition(i) ? rowsOfPartition(i) : NO_PARTITION;
    }

    public int count() {
        int found = 0;
        for (int id = 0; id < MAX_ROWS; id++) {
            if (fulfils(id)) {
                found++;
            }
        }
        return found;
    }

    public int sum() {
        int total = 0;
        for (int id = 0; id < MAX_ROWS; id++) {
            if (fulfils(id)) {
                total += values[id];
            }
        }
        return total;
    }

    public int match(int n) {
        for (int id = 0; id < MAX_ROWS; id++) {
            if (fulfils(id) && fulfillingBefore(id) == n) {
                return id;
            }
        }
        return NO_ROW;
    }

    public int pairs() {
        int found = 0;
        for (int id = 0; id < MAX_ROWS; id++) {
            if (fulfils(id)) {
                found += fulfillingPartnersBelow(id);
            }
        }
        return found;
    }

    public int touched() {
        int found = 0;
        for (int i = 0; i < partitionCount; i++) {
            if (isTouched(i)) {
                found++;
            }
        }
        return found;
    }

    private boolean isKey(int key) {
        return key >= 0 && key <= TOP_KEY;
    }

    private boolean isRow(int id) {
        return id >= 0 && id < MAX_ROWS && inUse[id];
    }

    private boolean isPartition(int i) {
        return i >= 0 && i < partitionCount;
    }

    private int smallestFreeId() {
        for (int id = 0; id < MAX_ROWS; id++) {
            if (!inUse[id]) {
                return id;
            }
        }
        return MAX_ROWS;
    }

    private int rowCount() {
        int found = 0;
        for (int id = 0; id < MAX_ROWS; id++) {
            if (inUse[id]) {
                found++;
            }
        }
        return found;
    }

    private int partitionOf(int key) {
        for (int i = partitionCount - 1; i > 0; i--) {
            if (bounds[i] <= key) {
                return i;
            }
        }
        return 0;
    }

    private boolean liesIn(int id, int i) {
        return inUse[id] && partitionOf(keys[id]) == i;
    }

    private int rowsOfPartition(int i) {
        int found = 0;
        for (int id = 0; id < MAX_ROWS; id++) {
            if (liesIn(id, i)) {
                found++;
            }
        }
        return found;
    }

    private boolean fulfils(int id) {
        return inUse[id] && someTermHolds(keys[id], values[id]);
    }

    private boolean someTermHolds(int key, int value) {
        for (int t = 0; t < termCount; t++) {
            if (lows[t] <= key && key <= highs[t] && value >= leasts[t]) {
                return true;
            }
        }
        return false;
    }

    private int fulfillingBefore(int id) {
        int found = 0;
        for (int other = 0; other < MAX_ROWS; other++) {
            if (comesBefore(other, id) && fulfils(other)) {
                found++;
            }
        }
        return found;
    }

    private boolean comesBefore(int other, int id) {
        return keys[other] < keys[id] || (keys[other] == keys[id] && other < id);
    }

    private int fulfillingPartnersBelow(int id) {
        int found = 0;
        for (int other = 0; other < id; other++) {
            if (keys[other] == keys[id] && fulfils(other)) {
                found++;
            }
        }
        return found;
    }

    private boolean isTouched(int i) {
        for (int id = 0; id < MAX_ROWS; id++) {
            if (liesIn(id, i) && fulfils(id)) {
                return true;
            }
        }
        return false;
    }
}
