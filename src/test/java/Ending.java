import java.util.ArrayList;
import java.util.List;

/**
 * Plays a run to an end that brings out what no look shows, such as the clock and the number of
 * begins: two objects that are in the same state give the same answers here.
 */
final class Ending {
    private static final int CLIENTS = 8;
    private static final int ROWS = 8;
    private static final int BEGINS = 33;

    private final Face x;
    private final List<Integer> answers = new ArrayList<>();

    private Ending(Face x) {
        this.x = x;
    }

    /** The answers of the end; x can't be used for anything else after it. */
    static List<Integer> of(Face x) {
        Ending end = new Ending(x);
        end.goOn();
        end.expire();
        end.startAfresh();
        return end.answers;
    }

    private void goOn() {
        for (int client = 0; client < CLIENTS; client++) {
            answers.add(x.stamp(client));
        }
        for (int client = 0; client < CLIENTS; client++) {
            for (int row = 0; row < ROWS; row++) {
                answers.add(x.commit(client, row));
            }
        }
        survey();
    }

    private void expire() {
        x.tick(1);
        survey();
        for (int client = 0; client < CLIENTS; client++) {
            for (int row = 0; row < ROWS; row++) {
                answers.add(x.read(client, row));
                answers.add(x.prewrite(client, row));
            }
            answers.add(x.heartbeat(client));
        }
        survey();
    }

    private void startAfresh() {
        for (int client = 0; client < CLIENTS; client++) {
            answers.add(x.crash(client));
        }
        x.tick(Integer.MAX_VALUE);
        for (int i = 0; i < BEGINS; i++) {
            int row = i % 2;
            answers.add(x.begin(0));
            answers.add(x.put(0, row, i));
            answers.add(x.prewrite(0, row));
            answers.add(x.stamp(0));
            answers.add(x.commit(0, row));
        }
        survey();
    }

    private void survey() {
        for (int answer : Survey.of(x)) {
            answers.add(answer);
        }
    }
}
