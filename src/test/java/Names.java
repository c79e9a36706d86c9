/** The constants under their short names, and the ends of int, for the tests that extend this. */
abstract class Names {
    static final int LEAST = Integer.MIN_VALUE;
    static final int MOST = Integer.MAX_VALUE;
    static final int OK = PrimaryLockTxn.OK;
    static final int ABSENT = PrimaryLockTxn.ABSENT;
    static final int BAD = PrimaryLockTxn.BAD;
    static final int NO_TXN = PrimaryLockTxn.NO_TXN;
    static final int NOT_NOW = PrimaryLockTxn.NOT_NOW;
    static final int BUSY = PrimaryLockTxn.BUSY;
    static final int FULL = PrimaryLockTxn.FULL;
    static final int NOT_PUT = PrimaryLockTxn.NOT_PUT;
    static final int ALREADY = PrimaryLockTxn.ALREADY;
    static final int LOCKED = PrimaryLockTxn.LOCKED;
    static final int CONFLICT = PrimaryLockTxn.CONFLICT;
    static final int GONE = PrimaryLockTxn.GONE;
    static final int PENDING = PrimaryLockTxn.PENDING;
    static final int PH_IDLE = PrimaryLockTxn.PH_IDLE;
    static final int PH_BUFFERING = PrimaryLockTxn.PH_BUFFERING;
    static final int PH_PREWRITING = PrimaryLockTxn.PH_PREWRITING;
    static final int PH_STAMPED = PrimaryLockTxn.PH_STAMPED;
    static final int PH_COMMITTED = PrimaryLockTxn.PH_COMMITTED;
    static final int ST_NONE = PrimaryLockTxn.ST_NONE;
    static final int ST_PUT = PrimaryLockTxn.ST_PUT;
    static final int ST_PREWRITTEN = PrimaryLockTxn.ST_PREWRITTEN;
    static final int ST_COMMITTED = PrimaryLockTxn.ST_COMMITTED;
    static final int LOOK_PHASE = PrimaryLockTxn.LOOK_PHASE;
    static final int LOOK_START = PrimaryLockTxn.LOOK_START;
    static final int LOOK_STAMP = PrimaryLockTxn.LOOK_STAMP;
    static final int LOOK_PRIMARY = PrimaryLockTxn.LOOK_PRIMARY;
    static final int LOOK_STAGE = PrimaryLockTxn.LOOK_STAGE;
    static final int LOOK_VALUE = PrimaryLockTxn.LOOK_VALUE;
}
