import java.nio.IntBuffer;
import java.util.ArrayList;
import java.util.Arrays;
import java.util.HashSet;
import java.util.List;
import java.util.Set;

/**
 * Every run of up to LONGEST calls on a small table. Runs that lead to the same state go on as
 * one: in each state that can be reached, each call must answer as the model does and leave
 * behind what the model leaves behind.
 */
final class EveryShortRunTest {
    private static final int CLIENTS = 2;
    private static final int ROWS = 2;
    private static final int LEASE = 1;
    private static final int TXNS = 8;
    private static final int LONGEST = 12;
    private static final int NO_VERSION = -99;
    private static final List<Call> CALLS = calls();

    private final Set<IntBuffer> states = new HashSet<>();
    private long checked = 0;

    public static void main(String[] args) {
        EveryShortRunTest all = new EveryShortRunTest();
        List<int[]> runs = List.of(new int[0]);
        for (int length = 1; length <= LONGEST; length++) {
            runs = all.longerByOne(runs);
        }
        System.out.println(all.checked + " calls in " + all.states.size() + " states answered as the model does");
        if (runs.isEmpty()) {
            System.exit(1);
        }
    }

    /** Wrong arguments change nothing, which other tests check: here they would only cost time. */
    private static List<Call> calls() {
        List<Call> calls = new ArrayList<>();
        for (int client = 0; client < CLIENTS; client++) {
            for (String name : new String[] {"begin", "stamp", "heartbeat", "abandon", "crash"}) {
                calls.add(new Call(name, client));
            }
            for (int row = 0; row < ROWS; row++) {
                // The values -1, 0, 1, 2: each tells its client and row.
                calls.add(new Call("put", client, row, client * ROWS + row - 1));
                calls.add(new Call("prewrite", client, row));
                calls.add(new Call("commit", client, row));
                calls.add(new Call("read", client, row));
            }
        }
        calls.add(new Call("tick", 1));
        return calls;
    }

    private List<int[]> longerByOne(List<int[]> runs) {
        List<int[]> longer = new ArrayList<>();
        for (int[] run : runs) {
            for (int next = 0; next < CALLS.size(); next++) {
                int[] one = Arrays.copyOf(run, run.length + 1);
                one[run.length] = next;
                if (states.add(stateAfter(one))) {
                    longer.add(one);
                }
            }
        }
        return longer;
    }

    /** Plays the run on a fresh program and a fresh model; all but its last call was checked before. */
    private IntBuffer stateAfter(int[] run) {
        Face program = new Program(CLIENTS, ROWS, LEASE, TXNS);
        Face model = new Model(CLIENTS, ROWS, LEASE, TXNS);
        int clock = 0;
        int begins = 0;
        int got = 0;
        int want = 0;
        for (int call : run) {
            got = CALLS.get(call).on(program);
            want = CALLS.get(call).on(model);
            String name = CALLS.get(call).name();
            if (want > 0 && (name.equals("begin") || name.equals("stamp"))) {
                clock = want;
                begins += name.equals("begin") ? 1 : 0;
            }
        }
        checked++;
        int[] found = state(program, clock, begins);
        int[] due = state(model, clock, begins);
        if (got != want || !Arrays.equals(found, due)) {
            fail(run, got, want, found, due);
        }
        return IntBuffer.wrap(due);
    }

    private static void fail(int[] run, int got, int want, int[] found, int[] due) {
        for (int call : run) {
            System.out.println(CALLS.get(call));
        }
        System.out.println("the last call answered " + got + ", due is " + want);
        System.out.println("state " + Arrays.toString(found) + ", due is " + Arrays.toString(due));
        System.exit(1);
    }

    /** All that later answers can depend on: what can be looked at, the clock and the count of begins. */
    private static int[] state(Face x, int clock, int begins) {
        List<Integer> state = new ArrayList<>(List.of(clock, begins));
        for (int client = 0; client < CLIENTS; client++) {
            for (int what = PrimaryLockTxn.LOOK_PHASE; what <= PrimaryLockTxn.LOOK_PRIMARY; what++) {
                state.add(x.look(client, what, 0));
            }
            for (int row = 0; row < ROWS; row++) {
                state.add(x.look(client, PrimaryLockTxn.LOOK_STAGE, row));
                state.add(x.look(client, PrimaryLockTxn.LOOK_VALUE, row));
            }
        }
        for (int row = 0; row < ROWS; row++) {
            state.add(x.holder(row));
            for (int ts = 0; ts <= clock + 1; ts++) {
                state.add(x.versionTime(row, ts) == ts ? x.peek(row, ts) : NO_VERSION);
            }
        }
        for (int start = 0; start <= clock + 1; start++) {
            state.add(x.leaseLeft(start));
            state.add(x.fate(start));
        }
        return state.stream().mapToInt(Integer::intValue).toArray();
    }
}
