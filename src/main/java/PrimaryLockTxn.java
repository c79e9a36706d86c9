/**
 * Crash-tolerant snapshot transactions of several clients over a small table of
 * rows that keep many versions. What every call promises stands in DOC.md.
 */
public final class PrimaryLockTxn {
    // answers
    public static final int OK = 0;
    public static final int ABSENT = -1;
    public static final int BAD = -2;
    public static final int NO_TXN = -3;
    public static final int NOT_NOW = -4;
    public static final int BUSY = -5;
    public static final int FULL = -6;
    public static final int NOT_PUT = -7;
    public static final int ALREADY = -8;
    public static final int LOCKED = -9;
    public static final int CONFLICT = -10;
    public static final int GONE = -11;
    public static final int PENDING = 0;

    // phases of a client
    public static final int PH_IDLE = 0;
    public static final int PH_BUFFERING = 1;
    public static final int PH_PREWRITING = 2;
    public static final int PH_STAMPED = 3;
    public static final int PH_COMMITTED = 4;

    // stages of a row in a client's transaction
    public static final int ST_NONE = 0;
    public static final int ST_PUT = 1;
    public static final int ST_PREWRITTEN = 2;
    public static final int ST_COMMITTED = 3;

    // what look asks for
    public static final int LOOK_PHASE = 0;
    public static final int LOOK_START = 1;
    public static final int LOOK_STAMP = 2;
    public static final int LOOK_PRIMARY = 3;
    public static final int LOOK_STAGE = 4;
    public static final int LOOK_VALUE = 5;

    private static final int MAX_CLIENTS = 8;
    private static final int MAX_ROWS = 8;
    private static final int MAX_LEASE = 100;
    private static final int MAX_TXNS = 32;
    private static final int LEAST_VALUE = -1;
    private static final int MAX_VALUE = 9999;

    // A transaction draws at most twice, so every timestamp is an index below TIMES.
    private static final int MAX_TIME = 2 * MAX_TXNS;
    private static final int TIMES = MAX_TIME + 1;
    private static final int CLIENT_CELLS = MAX_CLIENTS * MAX_ROWS;
    private static final int VERSION_CELLS = MAX_ROWS * TIMES;

    // Fates have codes of their own: the public answers don't tell all four apart.
    private static final int FATE_NONE = 0;
    private static final int FATE_UNBORN = 1;
    private static final int FATE_PENDING = 2;
    private static final int FATE_COMMITTED = 3;
    private static final int FATE_ROLLED_BACK = 4;

    private final int clients;
    private final int rows;
    private final int lease;
    private final int txns;

    private int clock = 0;
    private int begun = 0;

    // By client: what it knows of its own transaction; ABSENT where there is none.
    private final int[] phaseOf = new int[MAX_CLIENTS];
    private final int[] startOf = new int[MAX_CLIENTS];
    private final int[] stampOf = new int[MAX_CLIENTS];
    private final int[] primaryOf = new int[MAX_CLIENTS];

    // By client and row, see clientCell.
    private final int[] stageOf = new int[CLIENT_CELLS];
    private final int[] valueOf = new int[CLIENT_CELLS];

    // By start timestamp: what outlives the client's part in a transaction.
    private final int[] fateOf = new int[TIMES];
    private final int[] leaseOf = new int[TIMES];
    private final int[] committedAt = new int[TIMES];

    // By row: the start timestamp of the PENDING transaction that holds it, or ABSENT.
    private final int[] heldBy = new int[MAX_ROWS];

    // By row and commit timestamp, see versionCell.
    private final boolean[] hasVersion = new boolean[VERSION_CELLS];
    private final int[] versionValue = new int[VERSION_CELLS];

    public PrimaryLockTxn(int clients, int rows, int lease, int txns) {
        this.clients = clamp(clients, 1, MAX_CLIENTS);
        this.rows = clamp(rows, 2, MAX_ROWS);
        this.lease = clamp(lease, 1, MAX_LEASE);
        this.txns = clamp(txns, 8, MAX_TXNS);
        for (int client = 0; client < MAX_CLIENTS; client++) {
            becomeIdle(client);
        }
        for (int row = 0; row < MAX_ROWS; row++) {
            heldBy[row] = ABSENT;
        }
    }

    public int begin(int client) {
        if (!isClient(client)) {
            return BAD;
        }
        if (phaseOf[client] != PH_IDLE) {
            return BUSY;
        }
        if (begun >= txns) {
            return FULL;
        }
        begun++;
        int start = drawTimestamp();
        fateOf[start] = FATE_UNBORN;
        // Stamp, primary and stages are clear already: an idle client has none.
        phaseOf[client] = PH_BUFFERING;
        startOf[client] = start;
        return start;
    }

    public int put(int client, int row, int value) {
        if (!isClient(client) || !isRow(row) || value < LEAST_VALUE || value > MAX_VALUE) {
            return BAD;
        }
        if (phaseOf[client] == PH_IDLE) {
            return NO_TXN;
        }
        if (phaseOf[client] != PH_BUFFERING) {
            return NOT_NOW;
        }
        int cell = clientCell(client, row);
        stageOf[cell] = ST_PUT;
        valueOf[cell] = value;
        return OK;
    }

    public int prewrite(int client, int row) {
        if (!isClient(client) || !isRow(row)) {
            return BAD;
        }
        if (phaseOf[client] == PH_IDLE) {
            return NO_TXN;
        }
        if (phaseOf[client] == PH_STAMPED || phaseOf[client] == PH_COMMITTED) {
            return NOT_NOW;
        }
        int cell = clientCell(client, row);
        if (stageOf[cell] == ST_NONE) {
            return NOT_PUT;
        }
        if (stageOf[cell] == ST_PREWRITTEN) {
            return ALREADY;
        }
        // The own transaction can't be the holder: it holds prewritten rows alone.
        if (!clearTheWay(row)) {
            return LOCKED;
        }
        if (newestVersion(row, MAX_TIME) > startOf[client]) {
            return CONFLICT;
        }
        stageOf[cell] = ST_PREWRITTEN;
        if (phaseOf[client] == PH_BUFFERING) {
            makePending(client, row);
        }
        // An owner that was rolled back isn't told: it goes on, but holds nothing.
        if (fateOf[startOf[client]] == FATE_PENDING) {
            heldBy[row] = startOf[client];
        }
        return OK;
    }

    public int stamp(int client) {
        if (!isClient(client)) {
            return BAD;
        }
        if (phaseOf[client] == PH_IDLE) {
            return NO_TXN;
        }
        if (phaseOf[client] != PH_PREWRITING || hasRowOnlyPut(client)) {
            return NOT_NOW;
        }
        stampOf[client] = drawTimestamp();
        phaseOf[client] = PH_STAMPED;
        return stampOf[client];
    }

    public int commit(int client, int row) {
        if (!isClient(client) || !isRow(row)) {
            return BAD;
        }
        if (phaseOf[client] == PH_IDLE) {
            return NO_TXN;
        }
        if (phaseOf[client] == PH_BUFFERING || phaseOf[client] == PH_PREWRITING) {
            return NOT_NOW;
        }
        if (stageOf[clientCell(client, row)] == ST_NONE) {
            return NOT_PUT;
        }
        int answer;
        if (phaseOf[client] == PH_STAMPED) {
            answer = commitWhenStamped(client, row);
        } else {
            answer = commitWhenCommitted(client, row);
        }
        if (answer == OK && isWhollyCommitted(client)) {
            becomeIdle(client);
        }
        return answer;
    }

    public int heartbeat(int client) {
        if (!isClient(client)) {
            return BAD;
        }
        if (phaseOf[client] == PH_IDLE) {
            return NO_TXN;
        }
        if (phaseOf[client] == PH_BUFFERING || phaseOf[client] == PH_COMMITTED) {
            return NOT_NOW;
        }
        int start = startOf[client];
        if (fateOf[start] == FATE_ROLLED_BACK) {
            return GONE;
        }
        leaseOf[start] = lease;
        return OK;
    }

    public int abandon(int client) {
        if (!isClient(client)) {
            return BAD;
        }
        if (phaseOf[client] == PH_IDLE) {
            return NO_TXN;
        }
        if (phaseOf[client] == PH_COMMITTED) {
            return NOT_NOW;
        }
        int start = startOf[client];
        becomeIdle(client);
        if (fateOf[start] == FATE_ROLLED_BACK) {
            return GONE;
        }
        if (fateOf[start] == FATE_PENDING) {
            rollBack(start);
        }
        return OK;
    }

    public int crash(int client) {
        if (!isClient(client)) {
            return BAD;
        }
        if (phaseOf[client] == PH_IDLE) {
            return NO_TXN;
        }
        becomeIdle(client);
        return OK;
    }

    public int tick(int n) {
        if (n < 1) {
            return BAD;
        }
        for (int start = 1; start <= MAX_TIME; start++) {
            if (fateOf[start] == FATE_PENDING) {
                // Compared first, so that no n makes the difference negative.
                leaseOf[start] = n >= leaseOf[start] ? 0 : leaseOf[start] - n;
            }
        }
        return OK;
    }

    public int read(int client, int row) {
        if (!isClient(client) || !isRow(row)) {
            return BAD;
        }
        if (phaseOf[client] == PH_IDLE) {
            return NO_TXN;
        }
        int snapshot = startOf[client];
        // A later holder can only commit above the snapshot, so it is left alone.
        if (heldBy[row] < snapshot && !clearTheWay(row)) {
            return LOCKED;
        }
        return valueAt(row, snapshot);
    }

    public int peek(int row, int ts) {
        if (!isRow(row)) {
            return BAD;
        }
        return valueAt(row, ts);
    }

    public int versionTime(int row, int ts) {
        if (!isRow(row)) {
            return BAD;
        }
        return newestVersion(row, ts);
    }

    public int holder(int row) {
        if (!isRow(row)) {
            return BAD;
        }
        return heldBy[row];
    }

    public int leaseLeft(int start) {
        if (fateAt(start) != FATE_PENDING) {
            return ABSENT;
        }
        return leaseOf[start];
    }

    public int fate(int start) {
        int fate = fateAt(start);
        if (fate == FATE_COMMITTED) {
            return committedAt[start];
        }
        return fate == FATE_PENDING ? PENDING : ABSENT;
    }

    public int look(int client, int what, int row) {
        if (!isClient(client) || what < LOOK_PHASE || what > LOOK_VALUE) {
            return BAD;
        }
        if (what == LOOK_STAGE || what == LOOK_VALUE) {
            return isRow(row) ? lookAtRow(client, what, row) : BAD;
        }
        if (what == LOOK_PHASE) {
            return phaseOf[client];
        }
        if (what == LOOK_START) {
            return startOf[client];
        }
        return what == LOOK_STAMP ? stampOf[client] : primaryOf[client];
    }

    private static int clamp(int number, int least, int greatest) {
        if (number < least) {
            return least;
        }
        return number > greatest ? greatest : number;
    }

    private boolean isClient(int client) {
        return client >= 0 && client < clients;
    }

    private boolean isRow(int row) {
        return row >= 0 && row < rows;
    }

    private static int clientCell(int client, int row) {
        return client * MAX_ROWS + row;
    }

    private static int versionCell(int row, int time) {
        return row * TIMES + time;
    }

    private int drawTimestamp() {
        clock++;
        return clock;
    }

    private void becomeIdle(int client) {
        phaseOf[client] = PH_IDLE;
        startOf[client] = ABSENT;
        stampOf[client] = ABSENT;
        primaryOf[client] = ABSENT;
        for (int row = 0; row < MAX_ROWS; row++) {
            stageOf[clientCell(client, row)] = ST_NONE;
        }
    }

    private void makePending(int client, int primary) {
        int start = startOf[client];
        phaseOf[client] = PH_PREWRITING;
        primaryOf[client] = primary;
        fateOf[start] = FATE_PENDING;
        leaseOf[start] = lease;
    }

    /** Rolls back a holder without lease left; false if one with lease left stays. */
    private boolean clearTheWay(int row) {
        int start = heldBy[row];
        if (start == ABSENT) {
            return true;
        }
        if (leaseOf[start] > 0) {
            return false;
        }
        rollBack(start);
        return true;
    }

    private void rollBack(int start) {
        fateOf[start] = FATE_ROLLED_BACK;
        endHolds(start);
    }

    private void endHolds(int start) {
        for (int row = 0; row < rows; row++) {
            if (heldBy[row] == start) {
                heldBy[row] = ABSENT;
            }
        }
    }

    private int commitWhenStamped(int client, int row) {
        if (row != primaryOf[client]) {
            return NOT_NOW;
        }
        int start = startOf[client];
        if (fateOf[start] == FATE_ROLLED_BACK) {
            becomeIdle(client);
            return GONE;
        }
        fateOf[start] = FATE_COMMITTED;
        committedAt[start] = stampOf[client];
        addVersions(client);
        endHolds(start);
        phaseOf[client] = PH_COMMITTED;
        stageOf[clientCell(client, row)] = ST_COMMITTED;
        return OK;
    }

    private int commitWhenCommitted(int client, int row) {
        int cell = clientCell(client, row);
        if (stageOf[cell] == ST_COMMITTED) {
            return ALREADY;
        }
        stageOf[cell] = ST_COMMITTED;
        return OK;
    }

    private void addVersions(int client) {
        for (int row = 0; row < rows; row++) {
            int from = clientCell(client, row);
            if (stageOf[from] != ST_NONE) {
                int to = versionCell(row, stampOf[client]);
                hasVersion[to] = true;
                versionValue[to] = valueOf[from];
            }
        }
    }

    private boolean hasRowOnlyPut(int client) {
        for (int row = 0; row < rows; row++) {
            if (stageOf[clientCell(client, row)] == ST_PUT) {
                return true;
            }
        }
        return false;
    }

    private boolean isWhollyCommitted(int client) {
        for (int row = 0; row < rows; row++) {
            int stage = stageOf[clientCell(client, row)];
            if (stage != ST_NONE && stage != ST_COMMITTED) {
                return false;
            }
        }
        return true;
    }

    /** The greatest commit timestamp of the row that is ts or below, or ABSENT. */
    private int newestVersion(int row, int ts) {
        int latest = ts > MAX_TIME ? MAX_TIME : ts;
        for (int time = latest; time >= 1; time--) {
            if (hasVersion[versionCell(row, time)]) {
                return time;
            }
        }
        return ABSENT;
    }

    private int valueAt(int row, int ts) {
        int time = newestVersion(row, ts);
        return time == ABSENT ? ABSENT : versionValue[versionCell(row, time)];
    }

    private int fateAt(int start) {
        return start >= 1 && start <= MAX_TIME ? fateOf[start] : FATE_NONE;
    }

    private int lookAtRow(int client, int what, int row) {
        int cell = clientCell(client, row);
        if (what == LOOK_STAGE) {
            return stageOf[cell];
        }
        return stageOf[cell] == ST_NONE ? NOT_PUT : valueOf[cell];
    }
}
