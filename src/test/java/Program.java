/** The program behind the Face: PrimaryLockTxn itself may not name an interface of the tests. */
final class Program implements Face {
    private final PrimaryLockTxn x;

    Program(int clients, int rows, int lease, int txns) {
        x = new PrimaryLockTxn(clients, rows, lease, txns);
    }

    @Override public int begin(int client) { return x.begin(client); }
    @Override public int put(int client, int row, int value) { return x.put(client, row, value); }
    @Override public int prewrite(int client, int row) { return x.prewrite(client, row); }
    @Override public int stamp(int client) { return x.stamp(client); }
    @Override public int commit(int client, int row) { return x.commit(client, row); }
    @Override public int heartbeat(int client) { return x.heartbeat(client); }
    @Override public int abandon(int client) { return x.abandon(client); }
    @Override public int crash(int client) { return x.crash(client); }
    @Override public int tick(int n) { return x.tick(n); }
    @Override public int read(int client, int row) { return x.read(client, row); }
    @Override public int peek(int row, int ts) { return x.peek(row, ts); }
    @Override public int versionTime(int row, int ts) { return x.versionTime(row, ts); }
    @Override public int holder(int row) { return x.holder(row); }
    @Override public int leaseLeft(int start) { return x.leaseLeft(start); }
    @Override public int fate(int start) { return x.fate(start); }
    @Override public int look(int client, int what, int row) { return x.look(client, what, row); }
}
