import java.util.ArrayDeque;
import java.util.Arrays;
import java.util.Deque;
import java.util.Random;

/** Long mixed runs, the same every time: the program must answer as the model does, and look like it. */
final class ModelTest {
    private static final int RUNS = 3000;
    private static final int CALLS = 400;
    private static final int TAIL = 40;
    private static final int[] ODD = {-1, 0, 8, 9, 64, 65, Integer.MIN_VALUE, Integer.MAX_VALUE};
    /** More begins, puts and prewrites than crashes, so that many runs come to a commit. */
    private static final String MIX = "bbbpppppppwwwwwwwwwwssssccccccccchhatttrrrrrrxkvolfq";

    private final Random random;
    private final Face program;
    private final Face model;
    private final int clients;
    private final int rows;
    private final Deque<String> last = new ArrayDeque<>();

    private ModelTest(int seed) {
        random = new Random(seed);
        clients = size(8);
        rows = size(8);
        int lease = size(6);
        int txns = random.nextInt(40);
        program = new Program(clients, rows, lease, txns);
        model = new Model(clients, rows, lease, txns);
        last.add("new(" + clients + ", " + rows + ", " + lease + ", " + txns + ")");
    }

    public static void main(String[] args) {
        long asked = 0;
        for (int seed = 0; seed < RUNS; seed++) {
            ModelTest run = new ModelTest(seed);
            for (int i = 0; i < CALLS; i++) {
                asked++;
                if (!run.oneCall(i % 8 == 0)) {
                    System.out.println("seed " + seed + ", the last calls: " + run.last);
                    System.exit(1);
                }
            }
        }
        System.out.println(asked + " calls answered as the model does");
    }

    private int size(int most) {
        return oddOr(20, 1 + random.nextInt(most));
    }

    private int upTo(int bound) {
        return oddOr(60, random.nextInt(Math.min(8, Math.max(1, bound))));
    }

    /** What a call takes beside client and row: the value, the number of ticks, what to look at, or a time. */
    private int third(char op) {
        switch (op) {
            case 'p': return oddOr(8, random.nextInt(10003) - 2);
            case 't': return oddOr(10, 1 + random.nextInt(3));
            case 'q': return oddOr(10, random.nextInt(6));
            default: return oddOr(4, random.nextInt(66));
        }
    }

    private int oddOr(int oneIn, int plain) {
        return random.nextInt(oneIn) == 0 ? ODD[random.nextInt(ODD.length)] : plain;
    }

    private boolean oneCall(boolean survey) {
        char op = MIX.charAt(random.nextInt(MIX.length()));
        int client = upTo(clients);
        int row = upTo(Math.max(2, rows));
        int third = third(op);
        int got = call(program, op, client, row, third);
        int want = call(model, op, client, row, third);
        last.add(op + "(" + client + ", " + row + ", " + third + ")=" + got);
        if (last.size() > TAIL) {
            last.remove();
        }
        if (got != want) {
            System.out.println("answered " + got + ", due is " + want);
            return false;
        }
        if (survey && !Arrays.equals(Survey.of(program), Survey.of(model))) {
            System.out.println("what can be looked at differs from the model");
            return false;
        }
        return true;
    }

    private static int call(Face x, char op, int client, int row, int third) {
        switch (op) {
            case 'b': return x.begin(client);
            case 'p': return x.put(client, row, third);
            case 'w': return x.prewrite(client, row);
            case 's': return x.stamp(client);
            case 'c': return x.commit(client, row);
            case 'h': return x.heartbeat(client);
            case 'a': return x.abandon(client);
            case 't': return x.tick(third);
            case 'r': return x.read(client, row);
            case 'k': return x.peek(row, third);
            case 'v': return x.versionTime(row, third);
            case 'o': return x.holder(row);
            case 'l': return x.leaseLeft(third);
            case 'f': return x.fate(third);
            case 'q': return x.look(client, third, row);
            default: return x.crash(client);
        }
    }
}
