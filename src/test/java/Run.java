import java.util.ArrayList;
import java.util.List;
import java.util.Set;
import java.util.TreeSet;

/**
 * A run of calls on a fresh object. Each call is written behind the answer that is due:
 * due(OK).put(0, 1, 7) checks the answer alone; same(BAD).put(9, 1, 7) checks moreover that
 * nothing has changed, neither what can be looked at nor what only later calls bring out;
 * turns(1, "phase 0: 0 > 1", ...).begin(0) checks moreover that just this has changed of all
 * that can be looked at.
 */
final class Run {
    private static int calls = 0;
    private static int wrong = 0;

    private final String name;
    private final int[] sizes;
    private final Face x;
    private final List<Call> history = new ArrayList<>();
    private int want;
    private boolean stays;
    private Set<String> changes;

    Run(String name, int clients, int rows, int lease, int txns) {
        this.name = name;
        sizes = new int[] {clients, rows, lease, txns};
        x = fresh();
    }

    private Face fresh() {
        return new Program(sizes[0], sizes[1], sizes[2], sizes[3]);
    }

    /** Closes a test: tells what was found, with exit code 1 if something was wrong. */
    static void end() {
        System.out.println(calls + " calls, " + wrong + " wrong");
        if (wrong != 0 || calls == 0) {
            System.exit(1);
        }
    }

    Run due(int answer) {
        want = answer;
        stays = false;
        changes = null;
        return this;
    }

    Run same(int answer) {
        want = answer;
        stays = true;
        changes = Set.of();
        return this;
    }

    Run turns(int answer, String... changed) {
        want = answer;
        stays = false;
        changes = new TreeSet<>(List.of(changed));
        return this;
    }

    private void check(String call, int... args) {
        calls++;
        Call one = new Call(call, args);
        int[] before = changes == null ? null : Survey.of(x);
        int got = one.on(x);
        if (got != want) {
            tell(one, "answered " + got + ", due is " + want);
        }
        if (changes != null) {
            Set<String> found = Survey.changes(before, Survey.of(x));
            if (!found.equals(changes)) {
                tell(one, "changed " + found + ", due is " + changes);
            }
        }
        if (stays && !endsAlike(one)) {
            tell(one, "changed what later calls bring out");
        }
        history.add(one);
    }

    private void tell(Call call, String what) {
        wrong++;
        System.out.println(name + ": " + call + " " + what);
    }

    /** Whether the run so far ends in the same way with this call and without it. */
    private boolean endsAlike(Call call) {
        Face without = fresh();
        Face with = fresh();
        for (Call earlier : history) {
            earlier.on(without);
            earlier.on(with);
        }
        call.on(with);
        return Ending.of(without).equals(Ending.of(with));
    }

    void begin(int client) { check("begin", client); }
    void put(int client, int row, int value) { check("put", client, row, value); }
    void prewrite(int client, int row) { check("prewrite", client, row); }
    void stamp(int client) { check("stamp", client); }
    void commit(int client, int row) { check("commit", client, row); }
    void heartbeat(int client) { check("heartbeat", client); }
    void abandon(int client) { check("abandon", client); }
    void crash(int client) { check("crash", client); }
    void tick(int n) { check("tick", n); }
    void read(int client, int row) { check("read", client, row); }
    void peek(int row, int ts) { check("peek", row, ts); }
    void versionTime(int row, int ts) { check("versionTime", row, ts); }
    void holder(int row) { check("holder", row); }
    void leaseLeft(int start) { check("leaseLeft", start); }
    void fate(int start) { check("fate", start); }
    void look(int client, int what, int row) { check("look", client, what, row); }

    void phase(int client) { look(client, PrimaryLockTxn.LOOK_PHASE, 0); }
    void start(int client) { look(client, PrimaryLockTxn.LOOK_START, 0); }
    void stampOf(int client) { look(client, PrimaryLockTxn.LOOK_STAMP, 0); }
    void primary(int client) { look(client, PrimaryLockTxn.LOOK_PRIMARY, 0); }
    void stage(int client, int row) { look(client, PrimaryLockTxn.LOOK_STAGE, row); }
    void value(int client, int row) { look(client, PrimaryLockTxn.LOOK_VALUE, row); }

    /** The client begins (answer: start) and puts value into the rows. */
    void beginAndPut(int start, int client, int value, int... rows) {
        due(start).begin(client);
        for (int row : rows) {
            due(PrimaryLockTxn.OK).put(client, row, value);
        }
    }

    /** The client begins (answer: start), puts value into the rows and prewrites them in order. */
    void beginAndPrewrite(int start, int client, int value, int... rows) {
        beginAndPut(start, client, value, rows);
        for (int row : rows) {
            due(PrimaryLockTxn.OK).prewrite(client, row);
        }
    }

    /** A whole transaction with timestamps start and start + 1; the first row is the primary. */
    void writeAll(int start, int client, int value, int... rows) {
        beginAndPrewrite(start, client, value, rows);
        due(start + 1).stamp(client);
        for (int row : rows) {
            due(PrimaryLockTxn.OK).commit(client, row);
        }
    }

    /** Begins of a client that come to nothing, to move the clock from start to last. */
    void passBegins(int first, int last, int client) {
        for (int start = first; start <= last; start++) {
            due(start).begin(client);
            due(PrimaryLockTxn.OK).crash(client);
        }
    }
}
