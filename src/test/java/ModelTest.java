import java.util.ArrayDeque;
import java.util.Arrays;
import java.util.Deque;
import java.util.Random;

/** Long mixed runs, the same every time: the program must answer as the model does, and look like it. */
final class ModelTest {
    private static final int RUNS = 3000;
    private static final int CALLS = 400;
    private static final int TAIL = 40;
    private static final int[] ODD = {-1, 0, 8, 9, 64, 65, Integer.MIN_VALUE, Integer.MAX_VALUE};
    /** More begins, puts and prewrites than crashes, so that many runs come to a commit. */
    private static final String MIX = "bbbpppppppwwwwwwwwwwssssccccccccchhatttrrrrrrx";

    private final Random random;
    private final Face program;
    private final Face model;
    private final int clients;
    private final int rows;
    private final Deque<String> last = new ArrayDeque<>();

    private ModelTest(int seed) {
        random = new Random(seed);
        clients = size(8);
        rows = size(8);
        int lease = size(6);
        int txns = random.nextInt(40);
        program = new Program(clients, rows, lease, txns);
        model = new Model(clients, rows, lease, txns);
        last.add("new(" + clients + ", " + rows + ", " + lease + ", " + txns + ")");
    }

    public static void main(String[] args) {
        long asked = 0;
        for (int seed = 0; seed < RUNS; seed++) {
            ModelTest run = new ModelTest(seed);
            for (int i = 0; i < CALLS; i++) {
                asked++;
                if (!run.oneCall(i % 8 == 0)) {
                    System.out.println("seed " + seed + ", the last calls: " + run.last);
                    System.exit(1);
                }
            }
        }
        System.out.println(asked + " calls answered as the model does");
    }

    private int size(int most) {
        return random.nextInt(20) == 0 ? ODD[random.nextInt(ODD.length)] : 1 + random.nextInt(most);
    }

    private int upTo(int bound) {
        if (random.nextInt(60) == 0) {
            return ODD[random.nextInt(ODD.length)];
        }
        return random.nextInt(Math.min(8, Math.max(1, bound)));
    }

    private boolean oneCall(boolean survey) {
        char op = MIX.charAt(random.nextInt(MIX.length()));
        int client = upTo(clients);
        int row = upTo(Math.max(2, rows));
        int value = random.nextInt(8) == 0 ? ODD[random.nextInt(ODD.length)] : random.nextInt(10003) - 2;
        int n = random.nextInt(10) == 0 ? ODD[random.nextInt(ODD.length)] : 1 + random.nextInt(3);
        int got = call(program, op, client, row, value, n);
        int want = call(model, op, client, row, value, n);
        last.add(op + "(" + client + ", " + row + ", " + value + ", " + n + ")=" + got);
        if (last.size() > TAIL) {
            last.remove();
        }
        if (got != want) {
            System.out.println("answered " + got + ", due is " + want);
            return false;
        }
        if (survey && !Arrays.equals(Survey.of(program), Survey.of(model))) {
            System.out.println("what can be looked at differs from the model");
            return false;
        }
        return true;
    }

    private static int call(Face x, char op, int client, int row, int value, int n) {
        switch (op) {
            case 'b': return x.begin(client);
            case 'p': return x.put(client, row, value);
            case 'w': return x.prewrite(client, row);
            case 's': return x.stamp(client);
            case 'c': return x.commit(client, row);
            case 'h': return x.heartbeat(client);
            case 'a': return x.abandon(client);
            case 't': return x.tick(n);
            case 'r': return x.read(client, row);
            default: return x.crash(client);
        }
    }
}
