public final class WoundWaitLocks {
    public static final int WOUND_WAIT = 0;
    public static final int WAIT_DIE = 1;
    public static final int OP_READ = 1;
    public static final int OP_WRITE = 2;
    public static final int MODE_NONE = 0;
    public static final int MODE_S = 1;
    public static final int MODE_X = 2;
    public static final int ST_IDLE = 0;
    public static final int ST_ACTIVE = 1;
    public static final int ST_WAITING = 2;
    public static final int ST_ABORTED = 3;
    public static final int ST_COMMITTED = 4;
    public static final int EV_NONE = 0;
    public static final int EV_RESTART = 1;
    public static final int EV_OP = 2;
    public static final int EV_WAIT = 3;
    public static final int EV_DIE = 4;
    public static final int EV_COMMIT = 5;
    public static final int F_STATE = 0;
    public static final int F_TIMESTAMP = 1;
    public static final int F_PC = 2;
    public static final int F_ACC = 3;
    public static final int F_ABORTS = 4;
    public static final int F_COMMIT_RANK = 5;
    public static final int F_WAIT_ROW = 6;
    public static final int F_WAIT_MODE = 7;
    public static final int F_LENGTH = 8;

    private static final int MAX_ROWS = 16;
    private static final int MIN_TXS = 2;
    private static final int MAX_TXS = 8;
    private static final int MAX_OPS = 8;
    private static final int MAX_RUN = 64;
    private static final int TX_OP_CELLS = 64;
    private static final int TX_ROW_CELLS = 128;
    private static final int NOBODY = -1;
    private static final int NOWHERE = -1;
    private static final int FIRST_TIMESTAMP = 1;

    private final int policy;
    private final int rowCount;
    private final int txCount;

    private final int[] value = new int[MAX_ROWS];

    // Cell tx * MAX_OPS + i belongs to the i-th operation of tx.
    private final int[] opKind = new int[TX_OP_CELLS];
    private final int[] opRow = new int[TX_OP_CELLS];
    private final int[] opArg = new int[TX_OP_CELLS];
    private final int[] scriptLength = new int[MAX_TXS];

    private final int[] state = new int[MAX_TXS];
    private final int[] timestamp = new int[MAX_TXS];
    private final int[] pc = new int[MAX_TXS];
    private final int[] acc = new int[MAX_TXS];
    private final int[] abortCount = new int[MAX_TXS];
    private final int[] commitRank = new int[MAX_TXS];
    private final int[] waitRow = new int[MAX_TXS];
    private final int[] waitMode = new int[MAX_TXS];

    // A script runs each operation at most once between two aborts, so a log
    // never outgrows MAX_OPS; the cells lie as those of the scripts do.
    private final int[] undoRow = new int[TX_OP_CELLS];
    private final int[] undoValue = new int[TX_OP_CELLS];
    private final int[] undoLength = new int[MAX_TXS];

    // Cell tx * MAX_ROWS + row is the lock mode of tx on row.
    private final int[] held = new int[TX_ROW_CELLS];

    // Cell row * MAX_TXS + pos is position pos of the queue of row.
    private final int[] queue = new int[TX_ROW_CELLS];
    private final int[] queueSize = new int[MAX_ROWS];

    // The blockers of the request under way: kept apart from locks and queues,
    // because wounding changes those while the set must stay as it was found.
    private final boolean[] blocker = new boolean[MAX_TXS];

    private int nextTimestamp = FIRST_TIMESTAMP;
    private int commitTotal = 0;
    private int cursor;
    private int turnTx = NOBODY;
    private int turnWounds = 0;

    public WoundWaitLocks(int policy, int rows, int txs) {
        this.policy = clamp(policy, WOUND_WAIT, WAIT_DIE);
        this.rowCount = clamp(rows, 1, MAX_ROWS);
        this.txCount = clamp(txs, MIN_TXS, MAX_TXS);
        this.cursor = this.txCount - 1;
        for (int tx = 0; tx < MAX_TXS; tx++) {
            waitRow[tx] = NOWHERE;
        }
    }

    public boolean setRow(int row, int value) {
        if (!isRow(row) || nextTimestamp != FIRST_TIMESTAMP) {
            return false;
        }
        this.value[row] = value;
        return true;
    }

    public boolean addOp(int tx, int kind, int row, int arg) {
        if (!isTx(tx) || state[tx] != ST_IDLE || scriptLength[tx] >= MAX_OPS) {
            return false;
        }
        if ((kind != OP_READ && kind != OP_WRITE) || !isRow(row)) {
            return false;
        }
        int op = tx * MAX_OPS + scriptLength[tx];
        opKind[op] = kind;
        opRow[op] = row;
        opArg[op] = arg;
        scriptLength[tx]++;
        return true;
    }

    public int begin(int tx) {
        if (!isTx(tx) || state[tx] != ST_IDLE) {
            return 0;
        }
        timestamp[tx] = nextTimestamp;
        nextTimestamp++;
        state[tx] = ST_ACTIVE;
        pc[tx] = 0;
        acc[tx] = 0;
        return timestamp[tx];
    }

    public int step() {
        int tx = nextToAct();
        turnTx = tx;
        turnWounds = 0;
        if (tx == NOBODY) {
            return EV_NONE;
        }
        cursor = tx;
        if (state[tx] == ST_ABORTED) {
            state[tx] = ST_ACTIVE;
            return EV_RESTART;
        }
        if (pc[tx] >= scriptLength[tx]) {
            commit(tx);
            return EV_COMMIT;
        }
        return operationTurn(tx);
    }

    public int run(int n) {
        int most = clamp(n, 1, MAX_RUN);
        int taken = 0;
        for (int i = 0; i < most; i++) {
            if (step() == EV_NONE) {
                break;
            }
            taken++;
        }
        return taken;
    }

    public int txInfo(int tx, int field) {
        if (!isTx(tx)) {
            return 0;
        }
        switch (field) {
            case F_STATE:
                return state[tx];
            case F_TIMESTAMP:
                return timestamp[tx];
            case F_PC:
                return pc[tx];
            case F_ACC:
                return acc[tx];
            case F_ABORTS:
                return abortCount[tx];
            case F_COMMIT_RANK:
                return commitRank[tx];
            case F_WAIT_ROW:
                return waitRow[tx];
            case F_WAIT_MODE:
                return waitMode[tx];
            case F_LENGTH:
                return scriptLength[tx];
            default:
                return 0;
        }
    }

    public int holdMode(int tx, int row) {
        if (!isTx(tx) || !isRow(row)) {
            return MODE_NONE;
        }
        return held[tx * MAX_ROWS + row];
    }

    public int rowValue(int row) {
        if (!isRow(row)) {
            return 0;
        }
        return value[row];
    }

    public int queueLength(int row) {
        if (!isRow(row)) {
            return 0;
        }
        return queueSize[row];
    }

    public int queueAt(int row, int pos) {
        if (!isRow(row) || pos < 0 || pos >= queueSize[row]) {
            return NOBODY;
        }
        return queue[row * MAX_TXS + pos];
    }

    public int lastTx() {
        return turnTx;
    }

    public int lastWounds() {
        return turnWounds;
    }

    public int commits() {
        return commitTotal;
    }

    private static int clamp(int number, int least, int most) {
        if (number < least) {
            return least;
        }
        return number > most ? most : number;
    }

    private boolean isRow(int row) {
        return row >= 0 && row < rowCount;
    }

    private boolean isTx(int tx) {
        return tx >= 0 && tx < txCount;
    }

    private int nextToAct() {
        int tx = cursor;
        for (int i = 0; i < txCount; i++) {
            tx = tx + 1 < txCount ? tx + 1 : 0;
            if (state[tx] == ST_ACTIVE || state[tx] == ST_ABORTED) {
                return tx;
            }
        }
        return NOBODY;
    }

    private int operationTurn(int tx) {
        int op = tx * MAX_OPS + pc[tx];
        int row = opRow[op];
        int mode = opKind[op] == OP_READ ? MODE_S : MODE_X;
        // The modes are numbered by strength, so holding X serves a read too.
        if (held[tx * MAX_ROWS + row] >= mode) {
            perform(tx, op);
            return EV_OP;
        }
        boolean blocked = findBlockers(tx, mode, row);
        if (blocked && policy == WAIT_DIE && !isOlderThanBlockers(tx)) {
            abort(tx);
            return EV_DIE;
        }
        if (blocked && policy == WOUND_WAIT) {
            for (int u = 0; u < txCount; u++) {
                if (blocker[u] && timestamp[u] > timestamp[tx]) {
                    abort(u);
                    turnWounds++;
                }
            }
            blocked = findBlockers(tx, mode, row);
        }
        if (blocked) {
            joinQueue(tx, mode, row);
            return EV_WAIT;
        }
        held[tx * MAX_ROWS + row] = mode;
        perform(tx, op);
        return EV_OP;
    }

    private void perform(int tx, int op) {
        int row = opRow[op];
        if (opKind[op] == OP_READ) {
            acc[tx] += value[row];
        } else {
            int entry = tx * MAX_OPS + undoLength[tx];
            undoRow[entry] = row;
            undoValue[entry] = value[row];
            undoLength[tx]++;
            value[row] = acc[tx] + opArg[op];
        }
        pc[tx]++;
    }

    private boolean findBlockers(int tx, int mode, int row) {
        int barring = weakestConflict(mode);
        boolean any = false;
        for (int u = 0; u < txCount; u++) {
            boolean holds = held[u * MAX_ROWS + row] >= barring;
            boolean queues = waitRow[u] == row;
            blocker[u] = u != tx && (holds || queues);
            any = any || blocker[u];
        }
        return any;
    }

    private boolean isOlderThanBlockers(int tx) {
        for (int u = 0; u < txCount; u++) {
            if (blocker[u] && timestamp[u] <= timestamp[tx]) {
                return false;
            }
        }
        return true;
    }

    // Every mode at least as strong as the answer conflicts with mode.
    private static int weakestConflict(int mode) {
        return mode == MODE_S ? MODE_X : MODE_S;
    }

    private boolean othersHold(int tx, int leastMode, int row) {
        for (int u = 0; u < txCount; u++) {
            if (u != tx && held[u * MAX_ROWS + row] >= leastMode) {
                return true;
            }
        }
        return false;
    }

    private void joinQueue(int tx, int mode, int row) {
        queue[row * MAX_TXS + queueSize[row]] = tx;
        queueSize[row]++;
        state[tx] = ST_WAITING;
        waitRow[tx] = row;
        waitMode[tx] = mode;
    }

    private void leaveQueue(int tx) {
        int row = waitRow[tx];
        int first = row * MAX_TXS;
        int size = queueSize[row];
        int kept = 0;
        for (int pos = 0; pos < size; pos++) {
            int other = queue[first + pos];
            if (other != tx) {
                queue[first + kept] = other;
                kept++;
            }
        }
        queueSize[row] = kept;
        waitRow[tx] = NOWHERE;
        waitMode[tx] = MODE_NONE;
    }

    private void abort(int tx) {
        if (state[tx] == ST_WAITING) {
            leaveQueue(tx);
        }
        undoWrites(tx);
        dropLocks(tx);
        state[tx] = ST_ABORTED;
        pc[tx] = 0;
        acc[tx] = 0;
        abortCount[tx]++;
        for (int row = 0; row < rowCount; row++) {
            handOff(row);
        }
    }

    private void commit(int tx) {
        state[tx] = ST_COMMITTED;
        commitTotal++;
        commitRank[tx] = commitTotal;
        undoLength[tx] = 0;
        dropLocks(tx);
        for (int row = 0; row < rowCount; row++) {
            handOff(row);
        }
    }

    private void undoWrites(int tx) {
        // Backwards, so that a row written twice ends at its oldest value.
        for (int i = undoLength[tx] - 1; i >= 0; i--) {
            int entry = tx * MAX_OPS + i;
            value[undoRow[entry]] = undoValue[entry];
        }
        undoLength[tx] = 0;
    }

    private void dropLocks(int tx) {
        for (int row = 0; row < rowCount; row++) {
            held[tx * MAX_ROWS + row] = MODE_NONE;
        }
    }

    private void handOff(int row) {
        // Each round takes one transaction out of the queue, so txCount rounds
        // empty even the longest one.
        for (int i = 0; i < txCount && queueSize[row] > 0; i++) {
            int head = queue[row * MAX_TXS];
            int mode = waitMode[head];
            int barring = weakestConflict(mode);
            if (othersHold(head, barring, row)) {
                return;
            }
            leaveQueue(head);
            held[head * MAX_ROWS + row] = mode;
            state[head] = ST_ACTIVE;
        }
    }
}
