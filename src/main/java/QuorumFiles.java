/** Growing files on data nodes, kept by journals that must agree and by masters that replace each other. */
public final class QuorumFiles {
    public static final int NONE = -1, REFUSED = -2, LOST = -3, FULL = -4;

    private static final int DATA_NODES = 5;
    private static final int JOURNALS = 3;
    private static final int MASTERS = 2;
    private static final int QUORUM = 2;

    private static final int INODES = 12;
    private static final int ROOT = 0;
    private static final int CLIENTS = 4;
    private static final int NAMES = 8;

    private static final int BLOCKS = 16;
    private static final int ROW_MAX = 3;
    private static final int UNITS_MAX = 8;
    private static final int WANTED_REPLICAS = 3;
    private static final int PASS_MAX = 32;
    private static final long NO_UNIT = 10000000000L;

    private static final int LOG_MAX = 1000;
    private static final int UNFOLDED_MAX = 40;
    private static final int EPOCH_STEP = 2048;

    private static final int MAKE_RECORD = 0;
    private static final int BLOCK_RECORD = 1;
    private static final int STAMP_RECORD = 2;
    private static final int CLOSE_RECORD = 3;
    private static final int REMOVE_RECORD = 4;
    private static final int MOVE_RECORD = 5;

    private static final int ABSENT = 0;
    private static final int DIRECTORY = 1;
    private static final int OPEN = 2;
    private static final int CLOSED = 3;

    private static final int LOG_CELLS = JOURNALS * LOG_MAX;
    private static final int ROW_CELLS = INODES * ROW_MAX;
    private static final int REPLICA_CELLS = DATA_NODES * BLOCKS;
    private static final int UNIT_CELLS = REPLICA_CELLS * UNITS_MAX;

    private final boolean[] dataNodeDown = new boolean[DATA_NODES];
    private final boolean[] journalDown = new boolean[JOURNALS];
    private final boolean[] masterDown = new boolean[MASTERS];
    private int active = NONE;
    private int epoch = 0;

    private final boolean[] inTouch = new boolean[JOURNALS];
    private final int[] promise = new int[JOURNALS];
    private final int[] base = new int[JOURNALS];
    private final int[] logLength = new int[JOURNALS];
    // Folded records are kept here, too: they still count, and a takeover may have to read them again.
    private final int[] logEpoch = new int[LOG_CELLS];
    private final int[] logKind = new int[LOG_CELLS];
    private final int[] logA = new int[LOG_CELLS];
    private final int[] logB = new int[LOG_CELLS];
    private final int[] logC = new int[LOG_CELLS];

    // What the records of the log of the journals in touch say; it has a meaning only while a master is active.
    private final int[] inodeState = new int[INODES];
    private final int[] inodePlace = new int[INODES];
    private final int[] inodeClient = new int[INODES];
    private final int[] closeUnits = new int[INODES];
    private final int[] rowLength = new int[INODES];
    private final int[] rowBlock = new int[ROW_CELLS];
    private final int[] blockStamp = new int[BLOCKS];

    private final boolean[] replicaHeld = new boolean[REPLICA_CELLS];
    private final int[] replicaStamp = new int[REPLICA_CELLS];
    private final int[] unitCount = new int[REPLICA_CELLS];
    private final int[] unitValue = new int[UNIT_CELLS];

    public QuorumFiles() {
        forgetInodes();
    }

    // ---- power and takeover ----

    public boolean power(int sort, int n, boolean up) {
        if (sort == 0) {
            return switchPower(dataNodeDown, DATA_NODES, n, up);
        }
        if (sort == 1) {
            return switchPower(journalDown, JOURNALS, n, up);
        }
        if (sort != 2 || !switchPower(masterDown, MASTERS, n, up)) {
            return false;
        }
        if (!up && active == n) {
            active = NONE;
        }
        return true;
    }

    private boolean switchPower(boolean[] down, int size, int n, boolean up) {
        if (n < 0 || n >= size || down[n] != up) {
            return false;
        }
        down[n] = !up;
        return true;
    }

    public int takeover(int m) {
        if (m < 0 || m >= MASTERS || masterDown[m] || countUpJournals() < QUORUM) {
            return REFUSED;
        }
        epoch = greatestPromise() + 1;
        int source = journalWithBestLog();
        for (int j = 0; j < JOURNALS; j++) {
            inTouch[j] = !journalDown[j];
            if (inTouch[j]) {
                promise[j] = epoch;
                copyLog(source, j);
            }
        }
        active = m;
        replayLog(source);
        return epoch;
    }

    private int countUpJournals() {
        int count = 0;
        for (int j = 0; j < JOURNALS; j++) {
            if (!journalDown[j]) {
                count++;
            }
        }
        return count;
    }

    private int greatestPromise() {
        int greatest = 0;
        for (int j = 0; j < JOURNALS; j++) {
            if (!journalDown[j] && promise[j] > greatest) {
                greatest = promise[j];
            }
        }
        return greatest;
    }

    private int journalWithBestLog() {
        int best = NONE;
        for (int j = 0; j < JOURNALS; j++) {
            if (!journalDown[j] && (best == NONE || isBetterLog(j, best))) {
                best = j;
            }
        }
        return best;
    }

    private boolean isBetterLog(int j, int other) {
        int mine = lastEpoch(j);
        int theirs = lastEpoch(other);
        return mine > theirs || (mine == theirs && logLength[j] > logLength[other]);
    }

    private int lastEpoch(int j) {
        return logLength[j] == 0 ? 0 : logEpoch[j * LOG_MAX + logLength[j] - 1];
    }

    private void copyLog(int source, int target) {
        int length = logLength[source];
        for (int k = 0; k < length; k++) {
            int from = source * LOG_MAX + k;
            int to = target * LOG_MAX + k;
            logEpoch[to] = logEpoch[from];
            logKind[to] = logKind[from];
            logA[to] = logA[from];
            logB[to] = logB[from];
            logC[to] = logC[from];
        }
        logLength[target] = length;
        base[target] = base[source];
    }

    // ---- records: what they say and how they are written ----

    private void replayLog(int j) {
        forgetInodes();
        int length = logLength[j];
        for (int k = 0; k < length; k++) {
            applyRecord(j, k);
        }
    }

    private void forgetInodes() {
        for (int i = 0; i < INODES; i++) {
            inodeState[i] = ABSENT;
            inodePlace[i] = NONE;
            inodeClient[i] = NONE;
            closeUnits[i] = 0;
            rowLength[i] = 0;
        }
        for (int b = 0; b < BLOCKS; b++) {
            blockStamp[b] = 0;
        }
        inodeState[ROOT] = DIRECTORY;
    }

    private void applyRecord(int j, int k) {
        int cell = j * LOG_MAX + k;
        int a = logA[cell];
        int b = logB[cell];
        int stamp = EPOCH_STEP * logEpoch[cell] + k;
        switch (logKind[cell]) {
            case MAKE_RECORD:
                applyMake(a, b, logC[cell]);
                break;
            case BLOCK_RECORD:
                applyBlock(a, b, stamp);
                break;
            case STAMP_RECORD:
                blockStamp[a] = stamp;
                break;
            case CLOSE_RECORD:
                applyClose(a, b);
                break;
            case REMOVE_RECORD:
                applyRemove(a);
                break;
            case MOVE_RECORD:
                inodePlace[a] = b;
                break;
            default:
                break;
        }
    }

    private void applyMake(int i, int place, int client) {
        inodeState[i] = client == NONE ? DIRECTORY : OPEN;
        inodePlace[i] = place;
        inodeClient[i] = client;
        closeUnits[i] = 0;
        rowLength[i] = 0;
    }

    private void applyBlock(int f, int b, int stamp) {
        if (rowLength[f] < ROW_MAX) {
            rowBlock[f * ROW_MAX + rowLength[f]] = b;
            rowLength[f]++;
        }
        blockStamp[b] = stamp;
    }

    private void applyClose(int f, int units) {
        inodeState[f] = CLOSED;
        closeUnits[f] = units;
        if (units == 0 && rowLength[f] > 0) {
            rowLength[f]--;
        }
    }

    // The row goes with the file, so that its blocks count as free.
    private void applyRemove(int i) {
        inodeState[i] = ABSENT;
        rowLength[i] = 0;
    }

    /** False if too few journals got the record: the call that wrote it is lost. */
    private boolean writeRecord(int kind, int a, int b, int c) {
        int holders = 0;
        int holder = NONE;
        for (int j = 0; j < JOURNALS; j++) {
            if (journalDown[j]) {
                inTouch[j] = false;
            }
            if (inTouch[j] && logLength[j] < LOG_MAX) {
                addToLog(j, kind, a, b, c);
                holders++;
                holder = j;
            }
        }
        if (holders < QUORUM) {
            active = NONE;
            return false;
        }
        applyRecord(holder, logLength[holder] - 1);
        return true;
    }

    private void addToLog(int j, int kind, int a, int b, int c) {
        int cell = j * LOG_MAX + logLength[j];
        logEpoch[cell] = epoch;
        logKind[cell] = kind;
        logA[cell] = a;
        logB[cell] = b;
        logC[cell] = c;
        logLength[j]++;
    }

    private boolean logsLackRoom(int records) {
        for (int j = 0; j < JOURNALS; j++) {
            int length = logLength[j] + records;
            if (inTouch[j] && length > LOG_MAX) {
                return true;
            }
            if (inTouch[j] && !journalDown[j] && length - base[j] > UNFOLDED_MAX) {
                return true;
            }
        }
        return false;
    }

    // All journals in touch have the same log, so the first one found tells its length.
    private int sharedLength() {
        for (int j = 0; j < JOURNALS; j++) {
            if (inTouch[j]) {
                return logLength[j];
            }
        }
        return 0;
    }

    private int nextStamp() {
        return EPOCH_STEP * epoch + sharedLength();
    }

    // ---- inodes ----

    public int make(int c, int directory, int name) {
        if (active == NONE) {
            return NONE;
        }
        if (c < NONE || c >= CLIENTS || !isFreePlace(directory, name)) {
            return REFUSED;
        }
        int i = leastAbsentInode();
        if (i == NONE || logsLackRoom(1)) {
            return FULL;
        }
        return writeRecord(MAKE_RECORD, i, directory * NAMES + name, c) ? i : LOST;
    }

    public int remove(int i) {
        if (active == NONE) {
            return NONE;
        }
        if (!canBeRemoved(i)) {
            return REFUSED;
        }
        if (logsLackRoom(1)) {
            return FULL;
        }
        return writeRecord(REMOVE_RECORD, i, 0, 0) ? 0 : LOST;
    }

    private boolean canBeRemoved(int i) {
        if (!isPresent(i) || i == ROOT || inodeState[i] == OPEN) {
            return false;
        }
        return inodeState[i] == CLOSED || countEntries(i) == 0;
    }

    public int move(int i, int directory, int name) {
        if (active == NONE) {
            return NONE;
        }
        if (!isPresent(i) || i == ROOT || !isFreePlace(directory, name) || isAtOrBelow(directory, i)) {
            return REFUSED;
        }
        if (logsLackRoom(1)) {
            return FULL;
        }
        return writeRecord(MOVE_RECORD, i, directory * NAMES + name, 0) ? 0 : LOST;
    }

    private boolean isPresent(int i) {
        return i >= 0 && i < INODES && inodeState[i] != ABSENT;
    }

    private boolean isDirectory(int i) {
        return isPresent(i) && inodeState[i] == DIRECTORY;
    }

    private boolean isFile(int i) {
        return isPresent(i) && inodeState[i] != DIRECTORY;
    }

    private boolean isOpen(int i) {
        return isPresent(i) && inodeState[i] == OPEN;
    }

    private boolean isFreePlace(int directory, int name) {
        return isDirectory(directory) && name >= 0 && name < NAMES && inodeAt(directory, name) == NONE;
    }

    private int inodeAt(int directory, int name) {
        int place = directory * NAMES + name;
        for (int i = 0; i < INODES; i++) {
            if (inodeState[i] != ABSENT && inodePlace[i] == place) {
                return i;
            }
        }
        return NONE;
    }

    private int leastAbsentInode() {
        for (int i = 0; i < INODES; i++) {
            if (inodeState[i] == ABSENT) {
                return i;
            }
        }
        return NONE;
    }

    private int countInodes() {
        int count = 0;
        for (int i = 0; i < INODES; i++) {
            if (inodeState[i] != ABSENT) {
                count++;
            }
        }
        return count;
    }

    // The root's place is NONE, which a division would put into directory 0.
    private int directoryOf(int i) {
        return inodePlace[i] == NONE ? NONE : inodePlace[i] / NAMES;
    }

    private int countEntries(int directory) {
        int count = 0;
        for (int i = 0; i < INODES; i++) {
            if (inodeState[i] != ABSENT && directoryOf(i) == directory) {
                count++;
            }
        }
        return count;
    }

    private boolean isAtOrBelow(int directory, int top) {
        int at = directory;
        for (int step = 0; step < INODES && at != NONE; step++) {
            if (at == top) {
                return true;
            }
            at = directoryOf(at);
        }
        return false;
    }

    // ---- files: append, pass, close ----

    public int append(int c, int f, int v) {
        if (active == NONE) {
            return NONE;
        }
        if (!isOpen(f) || inodeClient[f] != c) {
            return REFUSED;
        }
        int last = lastBlock(f);
        if (last != NONE && !canTakeUnit(last)) {
            return REFUSED;
        }
        boolean renewed = last != NONE && hangs(last);
        // A renewal leaves the fewest units everywhere, so this is known before it.
        boolean extended = last == NONE || fewestUnits(last) == UNITS_MAX;
        if (extended && (rowLength[f] >= ROW_MAX || leastLoadedNode(0) == NONE)) {
            return REFUSED;
        }
        int records = (renewed ? 1 : 0) + (extended ? 1 : 0);
        if (logsLackRoom(records) || (extended && leastFreeBlock() == NONE)) {
            return FULL;
        }
        if (renewed && !renewBlock(last)) {
            return LOST;
        }
        if (extended && !addBlock(f)) {
            return LOST;
        }
        return addUnit(f, v);
    }

    /** Whether the last block lets its file grow, by a unit in it or by a block behind it. */
    private boolean canTakeUnit(int b) {
        int first = firstGoodNode(b);
        if (first == NONE) {
            return false;
        }
        if (hangs(b)) {
            return true;
        }
        return unitCount[first * BLOCKS + b] < UNITS_MAX || fewestUnits(b) == UNITS_MAX;
    }

    private boolean addBlock(int f) {
        int b = leastFreeBlock();
        int stamp = nextStamp();
        int chosen = 0;
        for (int r = 0; r < WANTED_REPLICAS; r++) {
            int d = leastLoadedNode(chosen);
            if (d != NONE) {
                putEmptyReplica(d, b, stamp);
                chosen |= 1 << d;
            }
        }
        return writeRecord(BLOCK_RECORD, f, b, 0);
    }

    private int addUnit(int f, int v) {
        int b = lastBlock(f);
        int first = b == NONE ? NONE : firstGoodNode(b);
        if (first == NONE) {
            return REFUSED;
        }
        int cell = first * BLOCKS + b;
        putUnit(cell, v);
        return unitCount[cell];
    }

    public int pass(int n) {
        if (active == NONE) {
            return NONE;
        }
        if (n < 0 || n > PASS_MAX) {
            return REFUSED;
        }
        for (int done = 0; done < n; done++) {
            if (!passOneUnit()) {
                return done;
            }
        }
        return n;
    }

    private boolean passOneUnit() {
        for (int b = 0; b < BLOCKS; b++) {
            if (isLastOfOpenFile(b) && passUnitWithin(b)) {
                return true;
            }
        }
        return false;
    }

    private boolean passUnitWithin(int b) {
        int good = goodNodes(b);
        int lower = NONE;
        for (int d = 0; d < DATA_NODES; d++) {
            if (isIn(good, d)) {
                int cell = d * BLOCKS + b;
                if (lower != NONE && unitCount[cell] < unitCount[lower]) {
                    putUnit(cell, unitValue[lower * UNITS_MAX + unitCount[cell]]);
                    return true;
                }
                lower = cell;
            }
        }
        return false;
    }

    public int close(int c, int f) {
        if (active == NONE) {
            return NONE;
        }
        if (!isOpen(f) || (c != NONE && inodeClient[f] != c)) {
            return REFUSED;
        }
        int last = lastBlock(f);
        boolean renewed = last != NONE && (c == NONE || hangs(last));
        if (last != NONE && !canBeClosed(last, renewed)) {
            return REFUSED;
        }
        if (logsLackRoom(renewed ? 2 : 1)) {
            return FULL;
        }
        if (renewed && !renewBlock(last)) {
            return LOST;
        }
        int units = last == NONE ? 0 : fewestUnits(last);
        return writeRecord(CLOSE_RECORD, f, units, 0) ? 0 : LOST;
    }

    private boolean canBeClosed(int b, boolean renewed) {
        if (goodNodes(b) == 0) {
            return false;
        }
        return renewed || fewestUnits(b) == mostUnits(b);
    }

    /** False if the stamp's record is lost. */
    private boolean renewBlock(int b) {
        int good = goodNodes(b);
        int units = fewestUnits(b);
        int stamp = nextStamp();
        for (int d = 0; d < DATA_NODES; d++) {
            if (isIn(good, d)) {
                int cell = d * BLOCKS + b;
                unitCount[cell] = units;
                replicaStamp[cell] = stamp;
            }
        }
        return writeRecord(STAMP_RECORD, b, 0, 0);
    }

    // ---- blocks in rows ----

    private int lastBlock(int f) {
        return rowLength[f] == 0 ? NONE : rowBlock[f * ROW_MAX + rowLength[f] - 1];
    }

    private boolean isInRow(int b) {
        for (int f = 0; f < INODES; f++) {
            int length = rowLength[f];
            for (int k = 0; k < length; k++) {
                if (rowBlock[f * ROW_MAX + k] == b) {
                    return true;
                }
            }
        }
        return false;
    }

    private boolean isLastOfOpenFile(int b) {
        for (int f = 0; f < INODES; f++) {
            if (isOpen(f) && lastBlock(f) == b) {
                return true;
            }
        }
        return false;
    }

    private int leastFreeBlock() {
        for (int b = 0; b < BLOCKS; b++) {
            if (!isInRow(b)) {
                return b;
            }
        }
        return NONE;
    }

    // ---- replicas ----

    private boolean isIn(int nodes, int d) {
        return (nodes >> d & 1) == 1;
    }

    /** The data nodes with good replicas of a block, node d as the bit 1 << d. */
    private int goodNodes(int b) {
        int greatest = NONE;
        int nodes = 0;
        for (int d = 0; d < DATA_NODES; d++) {
            int cell = d * BLOCKS + b;
            if (dataNodeDown[d] || !replicaHeld[cell] || replicaStamp[cell] < greatest) {
                continue;
            }
            if (replicaStamp[cell] > greatest) {
                greatest = replicaStamp[cell];
                nodes = 0;
            }
            nodes |= 1 << d;
        }
        return greatest < blockStamp[b] ? 0 : nodes;
    }

    private int firstGoodNode(int b) {
        int good = goodNodes(b);
        for (int d = 0; d < DATA_NODES; d++) {
            if (isIn(good, d)) {
                return d;
            }
        }
        return NONE;
    }

    private boolean hangs(int b) {
        int first = firstGoodNode(b);
        if (first == NONE) {
            return false;
        }
        int stamp = replicaStamp[first * BLOCKS + b];
        for (int d = 0; d < DATA_NODES; d++) {
            int cell = d * BLOCKS + b;
            if (dataNodeDown[d] && replicaHeld[cell] && replicaStamp[cell] == stamp) {
                return true;
            }
        }
        return false;
    }

    private int fewestUnits(int b) {
        int good = goodNodes(b);
        int fewest = NONE;
        for (int d = 0; d < DATA_NODES; d++) {
            int units = unitCount[d * BLOCKS + b];
            if (isIn(good, d) && (fewest == NONE || units < fewest)) {
                fewest = units;
            }
        }
        return fewest;
    }

    private int mostUnits(int b) {
        int good = goodNodes(b);
        int most = NONE;
        for (int d = 0; d < DATA_NODES; d++) {
            int units = unitCount[d * BLOCKS + b];
            if (isIn(good, d) && units > most) {
                most = units;
            }
        }
        return most;
    }

    private void putEmptyReplica(int d, int b, int stamp) {
        int cell = d * BLOCKS + b;
        replicaHeld[cell] = true;
        replicaStamp[cell] = stamp;
        unitCount[cell] = 0;
    }

    private void putUnit(int cell, int v) {
        if (unitCount[cell] < UNITS_MAX) {
            unitValue[cell * UNITS_MAX + unitCount[cell]] = v;
            unitCount[cell]++;
        }
    }

    private int loadOf(int d) {
        int load = 0;
        for (int b = 0; b < BLOCKS; b++) {
            if (replicaHeld[d * BLOCKS + b]) {
                load++;
            }
        }
        return load;
    }

    private int leastLoadedNode(int excluded) {
        int best = NONE;
        int bestLoad = 0;
        for (int d = 0; d < DATA_NODES; d++) {
            int load = loadOf(d);
            if (!dataNodeDown[d] && !isIn(excluded, d) && (best == NONE || load < bestLoad)) {
                best = d;
                bestLoad = load;
            }
        }
        return best;
    }

    // ---- fold and tend ----

    public int fold() {
        if (active == NONE) {
            return NONE;
        }
        int folded = 0;
        for (int j = 0; j < JOURNALS; j++) {
            if (inTouch[j] && !journalDown[j]) {
                base[j] = logLength[j];
                folded++;
            }
        }
        return folded;
    }

    public int tend(int d) {
        if (active == NONE) {
            return NONE;
        }
        if (d == NONE) {
            return replicateOneBlock();
        }
        if (d < 0 || d >= DATA_NODES || dataNodeDown[d]) {
            return REFUSED;
        }
        return dropUselessReplicas(d);
    }

    private int replicateOneBlock() {
        for (int b = 0; b < BLOCKS; b++) {
            if (isInRow(b) && !isLastOfOpenFile(b) && hasTooFewGood(b)) {
                int good = goodNodes(b);
                int target = leastLoadedNode(good);
                if (target != NONE) {
                    copyFirstReplica(b, target);
                    return b;
                }
            }
        }
        return NONE;
    }

    // A block without a good replica has nothing that could be copied.
    private boolean hasTooFewGood(int b) {
        int good = goodNodes(b);
        int count = 0;
        for (int d = 0; d < DATA_NODES; d++) {
            if (isIn(good, d)) {
                count++;
            }
        }
        return count > 0 && count < WANTED_REPLICAS;
    }

    private void copyFirstReplica(int b, int target) {
        int first = firstGoodNode(b);
        if (first == NONE) {
            return;
        }
        int from = first * BLOCKS + b;
        int to = target * BLOCKS + b;
        int units = unitCount[from];
        putEmptyReplica(target, b, replicaStamp[from]);
        for (int u = 0; u < units; u++) {
            putUnit(to, unitValue[from * UNITS_MAX + u]);
        }
    }

    private int dropUselessReplicas(int d) {
        int dropped = 0;
        for (int b = 0; b < BLOCKS; b++) {
            int cell = d * BLOCKS + b;
            if (replicaHeld[cell] && !isUseful(d, b)) {
                replicaHeld[cell] = false;
                dropped++;
            }
        }
        return dropped;
    }

    private boolean isUseful(int d, int b) {
        int good = goodNodes(b);
        return isInRow(b) && isIn(good, d);
    }

    // ---- questions ----

    public long read(int f, int k) {
        if (active == NONE || !isFile(f)) {
            return NO_UNIT;
        }
        return findUnit(f, k);
    }

    private long findUnit(int f, int k) {
        if (k < 0 || k / UNITS_MAX >= rowLength[f]) {
            return NO_UNIT;
        }
        int position = k / UNITS_MAX;
        int unit = k % UNITS_MAX;
        boolean limited = inodeState[f] == CLOSED && closeUnits[f] != 0 && position == rowLength[f] - 1;
        if (limited && unit >= closeUnits[f]) {
            return NO_UNIT;
        }
        int b = rowBlock[f * ROW_MAX + position];
        int first = firstGoodNode(b);
        if (first == NONE || unit >= fewestUnits(b)) {
            return NO_UNIT;
        }
        int cell = first * BLOCKS + b;
        return unitValue[cell * UNITS_MAX + unit];
    }

    private int countReadableUnits(int f) {
        int most = ROW_MAX * UNITS_MAX;
        for (int k = 0; k < most; k++) {
            if (findUnit(f, k) == NO_UNIT) {
                return k;
            }
        }
        return most;
    }

    public int node(int i, int what) {
        if (active == NONE || i < 0 || i >= INODES) {
            return NONE;
        }
        if (what == 0) {
            return inodeState[i];
        }
        if (inodeState[i] == ABSENT) {
            return NONE;
        }
        boolean directory = inodeState[i] == DIRECTORY;
        switch (what) {
            case 1:
                return inodePlace[i];
            case 2:
                return inodeState[i] == OPEN ? inodeClient[i] : NONE;
            case 3:
                return directory ? countEntries(i) : rowLength[i];
            case 4:
                return directory ? 0 : countReadableUnits(i);
            default:
                return directory && what >= 5 && what < 5 + NAMES ? inodeAt(i, what - 5) : NONE;
        }
    }

    public int block(int f, int k, int what) {
        if (active == NONE || !isFile(f) || k < 0 || k >= rowLength[f]) {
            return NONE;
        }
        int b = rowBlock[f * ROW_MAX + k];
        switch (what) {
            case 0:
                return b;
            case 1:
                return blockStamp[b];
            case 2:
                return goodNodes(b);
            case 3:
                return fewestUnits(b);
            case 4:
                return hangs(b) ? 1 : 0;
            default:
                return NONE;
        }
    }

    public int replica(int d, int b, int what) {
        if (d < 0 || d >= DATA_NODES || b < 0 || b >= BLOCKS) {
            return NONE;
        }
        int cell = d * BLOCKS + b;
        if (!replicaHeld[cell]) {
            return NONE;
        }
        if (what == 0) {
            return replicaStamp[cell];
        }
        return what == 1 ? unitCount[cell] : NONE;
    }

    public int journal(int j, int k, int what) {
        if (j < 0 || j >= JOURNALS) {
            return NONE;
        }
        if (k == NONE) {
            return journalFact(j, what);
        }
        if (k < base[j] || k >= logLength[j]) {
            return NONE;
        }
        return recordFact(j * LOG_MAX + k, what);
    }

    private int journalFact(int j, int what) {
        switch (what) {
            case 0:
                return logLength[j];
            case 1:
                return promise[j];
            case 2:
                return inTouch[j] ? 1 : 0;
            case 3:
                return base[j];
            default:
                return NONE;
        }
    }

    private int recordFact(int cell, int what) {
        switch (what) {
            case 0:
                return logEpoch[cell];
            case 1:
                return logKind[cell];
            case 2:
                return logA[cell];
            case 3:
                return logB[cell];
            case 4:
                return logC[cell];
            default:
                return NONE;
        }
    }

    public int status(int what) {
        if (what == 1) {
            return epoch;
        }
        if (what == 3) {
            return countReplicas();
        }
        if (active == NONE) {
            return NONE;
        }
        switch (what) {
            case 0:
                return active;
            case 2:
                return sharedLength();
            case 4:
                return countInodes();
            default:
                return NONE;
        }
    }

    private int countReplicas() {
        int count = 0;
        for (int d = 0; d < DATA_NODES; d++) {
            count += loadOf(d);
        }
        return count;
    }
}
