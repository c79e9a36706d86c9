import java.util.ArrayList;
import java.util.HashMap;
import java.util.List;
import java.util.Map;
import java.util.TreeMap;

/**
 * The document told a second time, with objects and library maps. It shares no way of keeping
 * things with the program: who holds a row is worked out from the transactions at every call.
 */
final class Model implements Face {
    private enum Fate { UNBORN, PENDING, COMMITTED, ROLLED_BACK }

    private static final class Txn {
        int start;
        Fate fate = Fate.UNBORN;
        int leaseLeft;
        int stamp;
        final List<Integer> held = new ArrayList<>();
    }

    private static final class Client {
        int phase = PrimaryLockTxn.PH_IDLE;
        Txn txn;
        Integer stamp;
        Integer primary;
        final Map<Integer, Integer> stages = new TreeMap<>();
        final Map<Integer, Integer> values = new HashMap<>();

        boolean idle() { return phase == PrimaryLockTxn.PH_IDLE; }
        int stage(int row) { return stages.getOrDefault(row, PrimaryLockTxn.ST_NONE); }
    }

    private final Client[] clients;
    private final int lease;
    private final int txns;
    private int clock = 0;
    private final Map<Integer, Txn> begun = new TreeMap<>();
    private final List<TreeMap<Integer, Integer>> versions = new ArrayList<>();

    Model(int clients, int rows, int lease, int txns) {
        this.clients = new Client[Math.min(8, Math.max(1, clients))];
        for (int i = 0; i < this.clients.length; i++) {
            this.clients[i] = new Client();
        }
        for (int i = 0; i < Math.min(8, Math.max(2, rows)); i++) {
            versions.add(new TreeMap<>());
        }
        this.lease = Math.min(100, Math.max(1, lease));
        this.txns = Math.min(32, Math.max(8, txns));
    }

    private boolean noClient(int client) { return client < 0 || client >= clients.length; }

    private boolean noRow(int row) { return row < 0 || row >= versions.size(); }

    private Txn holderOf(int row) {
        for (Txn t : begun.values()) {
            if (t.fate == Fate.PENDING && t.held.contains(row)) {
                return t;
            }
        }
        return null;
    }

    @Override public int begin(int client) {
        if (noClient(client)) return PrimaryLockTxn.BAD;
        if (!clients[client].idle()) return PrimaryLockTxn.BUSY;
        if (begun.size() == txns) return PrimaryLockTxn.FULL;
        Txn t = new Txn();
        t.start = ++clock;
        begun.put(t.start, t);
        clients[client] = new Client();
        clients[client].phase = PrimaryLockTxn.PH_BUFFERING;
        clients[client].txn = t;
        return t.start;
    }

    @Override public int put(int client, int row, int value) {
        if (noClient(client) || noRow(row) || value < -1 || value > 9999) return PrimaryLockTxn.BAD;
        Client c = clients[client];
        if (c.idle()) return PrimaryLockTxn.NO_TXN;
        if (c.phase != PrimaryLockTxn.PH_BUFFERING) return PrimaryLockTxn.NOT_NOW;
        c.stages.put(row, PrimaryLockTxn.ST_PUT);
        c.values.put(row, value);
        return PrimaryLockTxn.OK;
    }

    @Override public int prewrite(int client, int row) {
        if (noClient(client) || noRow(row)) return PrimaryLockTxn.BAD;
        Client c = clients[client];
        if (c.idle()) return PrimaryLockTxn.NO_TXN;
        if (c.phase == PrimaryLockTxn.PH_STAMPED) return PrimaryLockTxn.NOT_NOW;
        if (c.phase == PrimaryLockTxn.PH_COMMITTED) return PrimaryLockTxn.NOT_NOW;
        if (c.stage(row) == PrimaryLockTxn.ST_NONE) return PrimaryLockTxn.NOT_PUT;
        if (c.stage(row) == PrimaryLockTxn.ST_PREWRITTEN) return PrimaryLockTxn.ALREADY;
        Txn other = holderOf(row);
        if (other != null && other.leaseLeft > 0) return PrimaryLockTxn.LOCKED;
        if (other != null) other.fate = Fate.ROLLED_BACK;
        if (!versions.get(row).tailMap(c.txn.start, false).isEmpty()) return PrimaryLockTxn.CONFLICT;
        c.stages.put(row, PrimaryLockTxn.ST_PREWRITTEN);
        if (c.phase == PrimaryLockTxn.PH_BUFFERING) {
            c.primary = row;
            c.phase = PrimaryLockTxn.PH_PREWRITING;
            c.txn.fate = Fate.PENDING;
            c.txn.leaseLeft = lease;
        }
        c.txn.held.add(row);
        return PrimaryLockTxn.OK;
    }

    @Override public int stamp(int client) {
        if (noClient(client)) return PrimaryLockTxn.BAD;
        Client c = clients[client];
        if (c.idle()) return PrimaryLockTxn.NO_TXN;
        if (c.phase != PrimaryLockTxn.PH_PREWRITING) return PrimaryLockTxn.NOT_NOW;
        if (c.stages.containsValue(PrimaryLockTxn.ST_PUT)) return PrimaryLockTxn.NOT_NOW;
        c.stamp = ++clock;
        c.phase = PrimaryLockTxn.PH_STAMPED;
        return c.stamp;
    }

    @Override public int commit(int client, int row) {
        if (noClient(client) || noRow(row)) return PrimaryLockTxn.BAD;
        Client c = clients[client];
        if (c.idle()) return PrimaryLockTxn.NO_TXN;
        if (c.phase < PrimaryLockTxn.PH_STAMPED) return PrimaryLockTxn.NOT_NOW;
        if (c.stage(row) == PrimaryLockTxn.ST_NONE) return PrimaryLockTxn.NOT_PUT;
        if (c.phase == PrimaryLockTxn.PH_STAMPED) {
            if (c.primary != row) return PrimaryLockTxn.NOT_NOW;
            if (c.txn.fate == Fate.ROLLED_BACK) {
                clients[client] = new Client();
                return PrimaryLockTxn.GONE;
            }
            c.txn.fate = Fate.COMMITTED;
            c.txn.stamp = c.stamp;
            c.phase = PrimaryLockTxn.PH_COMMITTED;
            c.values.forEach((r, v) -> versions.get(r).put(c.stamp, v));
        } else if (c.stage(row) == PrimaryLockTxn.ST_COMMITTED) {
            return PrimaryLockTxn.ALREADY;
        }
        c.stages.put(row, PrimaryLockTxn.ST_COMMITTED);
        if (c.stages.values().stream().allMatch(s -> s == PrimaryLockTxn.ST_COMMITTED)) {
            clients[client] = new Client();
        }
        return PrimaryLockTxn.OK;
    }

    @Override public int heartbeat(int client) {
        if (noClient(client)) return PrimaryLockTxn.BAD;
        Client c = clients[client];
        if (c.idle()) return PrimaryLockTxn.NO_TXN;
        if (c.phase == PrimaryLockTxn.PH_BUFFERING) return PrimaryLockTxn.NOT_NOW;
        if (c.phase == PrimaryLockTxn.PH_COMMITTED) return PrimaryLockTxn.NOT_NOW;
        if (c.txn.fate == Fate.ROLLED_BACK) return PrimaryLockTxn.GONE;
        c.txn.leaseLeft = lease;
        return PrimaryLockTxn.OK;
    }

    @Override public int abandon(int client) {
        if (noClient(client)) return PrimaryLockTxn.BAD;
        Client c = clients[client];
        if (c.idle()) return PrimaryLockTxn.NO_TXN;
        if (c.phase == PrimaryLockTxn.PH_COMMITTED) return PrimaryLockTxn.NOT_NOW;
        clients[client] = new Client();
        if (c.txn.fate == Fate.ROLLED_BACK) return PrimaryLockTxn.GONE;
        if (c.txn.fate == Fate.PENDING) c.txn.fate = Fate.ROLLED_BACK;
        return PrimaryLockTxn.OK;
    }

    @Override public int crash(int client) {
        if (noClient(client)) return PrimaryLockTxn.BAD;
        if (clients[client].idle()) return PrimaryLockTxn.NO_TXN;
        clients[client] = new Client();
        return PrimaryLockTxn.OK;
    }

    @Override public int tick(int n) {
        if (n < 1) return PrimaryLockTxn.BAD;
        for (Txn t : begun.values()) {
            t.leaseLeft = (int) Math.max(0L, (long) t.leaseLeft - n);
        }
        return PrimaryLockTxn.OK;
    }

    @Override public int read(int client, int row) {
        if (noClient(client) || noRow(row)) return PrimaryLockTxn.BAD;
        Client c = clients[client];
        if (c.idle()) return PrimaryLockTxn.NO_TXN;
        Txn other = holderOf(row);
        if (other != null && other.start < c.txn.start) {
            if (other.leaseLeft > 0) return PrimaryLockTxn.LOCKED;
            other.fate = Fate.ROLLED_BACK;
        }
        return peek(row, c.txn.start);
    }

    @Override public int peek(int row, int ts) {
        if (noRow(row)) return PrimaryLockTxn.BAD;
        Map.Entry<Integer, Integer> version = versions.get(row).floorEntry(ts);
        return version == null ? PrimaryLockTxn.ABSENT : version.getValue();
    }

    @Override public int versionTime(int row, int ts) {
        if (noRow(row)) return PrimaryLockTxn.BAD;
        Integer time = versions.get(row).floorKey(ts);
        return time == null ? PrimaryLockTxn.ABSENT : time;
    }

    @Override public int holder(int row) {
        if (noRow(row)) return PrimaryLockTxn.BAD;
        Txn t = holderOf(row);
        return t == null ? PrimaryLockTxn.ABSENT : t.start;
    }

    @Override public int leaseLeft(int start) {
        Txn t = begun.get(start);
        return t == null || t.fate != Fate.PENDING ? PrimaryLockTxn.ABSENT : t.leaseLeft;
    }

    @Override public int fate(int start) {
        Txn t = begun.get(start);
        if (t == null) return PrimaryLockTxn.ABSENT;
        if (t.fate == Fate.COMMITTED) return t.stamp;
        return t.fate == Fate.PENDING ? PrimaryLockTxn.PENDING : PrimaryLockTxn.ABSENT;
    }

    @Override public int look(int client, int what, int row) {
        if (noClient(client) || what < 0 || what > 5) return PrimaryLockTxn.BAD;
        if (what >= PrimaryLockTxn.LOOK_STAGE && noRow(row)) return PrimaryLockTxn.BAD;
        Client c = clients[client];
        switch (what) {
            case PrimaryLockTxn.LOOK_PHASE: return c.phase;
            case PrimaryLockTxn.LOOK_START: return c.txn == null ? PrimaryLockTxn.ABSENT : c.txn.start;
            case PrimaryLockTxn.LOOK_STAMP: return c.stamp == null ? PrimaryLockTxn.ABSENT : c.stamp;
            case PrimaryLockTxn.LOOK_PRIMARY: return c.primary == null ? PrimaryLockTxn.ABSENT : c.primary;
            case PrimaryLockTxn.LOOK_STAGE: return c.stage(row);
            default: return c.values.getOrDefault(row, PrimaryLockTxn.NOT_PUT);
        }
    }
}
