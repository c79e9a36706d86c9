import java.util.Arrays;

/**
 * A run of calls on a fresh object. Each call is written behind the answer that is due:
 * due(OK).put(0, 1, 7) checks the answer alone; same(BAD).put(9, 1, 7) checks moreover
 * that nothing which can be looked at has changed.
 */
final class Run {
    private static int calls = 0;
    private static int wrong = 0;

    private final String name;
    private final Face x;
    private int want;
    private int[] before;

    Run(String name, int clients, int rows, int lease, int txns) {
        this.name = name;
        x = new Program(clients, rows, lease, txns);
    }

    /** Closes a test: tells what was found, with exit code 1 if something was wrong. */
    static void end() {
        System.out.println(calls + " calls, " + wrong + " wrong");
        if (wrong != 0 || calls == 0) {
            System.exit(1);
        }
    }

    Run due(int answer) {
        want = answer;
        before = null;
        return this;
    }

    Run same(int answer) {
        want = answer;
        before = Survey.of(x);
        return this;
    }

    private void check(int got, String call, int... args) {
        calls++;
        String text = name + ": " + call + Arrays.toString(args);
        if (got != want) {
            wrong++;
            System.out.println(text + " answered " + got + ", due is " + want);
        }
        if (before != null && !Arrays.equals(before, Survey.of(x))) {
            wrong++;
            System.out.println(text + " changed what must stay the same");
        }
    }

    void begin(int client) { check(x.begin(client), "begin", client); }
    void put(int client, int row, int value) { check(x.put(client, row, value), "put", client, row, value); }
    void prewrite(int client, int row) { check(x.prewrite(client, row), "prewrite", client, row); }
    void stamp(int client) { check(x.stamp(client), "stamp", client); }
    void commit(int client, int row) { check(x.commit(client, row), "commit", client, row); }
    void heartbeat(int client) { check(x.heartbeat(client), "heartbeat", client); }
    void abandon(int client) { check(x.abandon(client), "abandon", client); }
    void crash(int client) { check(x.crash(client), "crash", client); }
    void tick(int n) { check(x.tick(n), "tick", n); }
    void read(int client, int row) { check(x.read(client, row), "read", client, row); }
    void peek(int row, int ts) { check(x.peek(row, ts), "peek", row, ts); }
    void versionTime(int row, int ts) { check(x.versionTime(row, ts), "versionTime", row, ts); }
    void holder(int row) { check(x.holder(row), "holder", row); }
    void leaseLeft(int start) { check(x.leaseLeft(start), "leaseLeft", start); }
    void fate(int start) { check(x.fate(start), "fate", start); }
    void look(int client, int what, int row) { check(x.look(client, what, row), "look", client, what, row); }

    void phase(int client) { look(client, PrimaryLockTxn.LOOK_PHASE, 0); }
    void stage(int client, int row) { look(client, PrimaryLockTxn.LOOK_STAGE, row); }
    void value(int client, int row) { look(client, PrimaryLockTxn.LOOK_VALUE, row); }

    /** The client begins (answer: start), puts value into the rows and prewrites them in order. */
    void beginAndPrewrite(int start, int client, int value, int... rows) {
        due(start).begin(client);
        for (int row : rows) {
            due(PrimaryLockTxn.OK).put(client, row, value);
        }
        for (int row : rows) {
            due(PrimaryLockTxn.OK).prewrite(client, row);
        }
    }

    /** A whole transaction with timestamps start and start + 1; the first row is the primary. */
    void writeAll(int start, int client, int value, int... rows) {
        beginAndPrewrite(start, client, value, rows);
        due(start + 1).stamp(client);
        for (int row : rows) {
            due(PrimaryLockTxn.OK).commit(client, row);
        }
    }
}
