/** Promise 12: peek and versionTime. */
final class Promise12Test extends Names {
    public static void main(String[] args) {
        rowsOutOfRange();
        edgesOfTheTime();
        holdersAreNotRegarded();
        lateCommitOfAnEarlyStamp();
        Run.end();
    }

    private static void rowsOutOfRange() {
        Run r = new Run("rows", 1, 3, 2, 8);
        for (int row : new int[] {-1, 3, 8, LEAST, MOST}) {
            for (int ts : new int[] {LEAST, 0, 5, MOST}) {
                r.same(BAD).peek(row, ts);
                r.same(BAD).versionTime(row, ts);
            }
        }
    }

    private static void edgesOfTheTime() {
        Run r = new Run("times", 1, 3, 2, 8);
        r.writeAll(1, 0, 10, 0, 2);
        r.writeAll(3, 0, -1, 0);
        r.writeAll(5, 0, 30, 0);
        both(r, 0, LEAST, ABSENT, ABSENT);
        both(r, 0, -1, ABSENT, ABSENT);
        both(r, 0, 0, ABSENT, ABSENT);
        both(r, 0, 1, ABSENT, ABSENT);
        both(r, 0, 2, 10, 2);
        both(r, 0, 3, 10, 2);
        both(r, 0, 4, ABSENT, 4);
        both(r, 0, 5, ABSENT, 4);
        both(r, 0, 6, 30, 6);
        for (int ts : new int[] {7, 63, 64, 65, 66, 1000, MOST}) {
            both(r, 0, ts, 30, 6);
            both(r, 1, ts, ABSENT, ABSENT);
            both(r, 2, ts, 10, 2);
        }
    }

    private static void both(Run r, int row, int ts, int value, int time) {
        r.same(value).peek(row, ts);
        r.same(time).versionTime(row, ts);
    }

    private static void holdersAreNotRegarded() {
        Run r = new Run("holders", 1, 3, 2, 8);
        r.writeAll(1, 0, 10, 1);
        r.beginAndPrewrite(3, 0, 20, 1);
        both(r, 1, 9, 10, 2);
        r.due(OK).tick(2);
        both(r, 1, 9, 10, 2);
        r.due(3).holder(1);
        r.due(4).stamp(0);
        both(r, 1, 9, 10, 2);
        r.due(OK).commit(0, 1);
        both(r, 1, 9, 20, 4);
        both(r, 1, 3, 10, 2);
    }

    private static void lateCommitOfAnEarlyStamp() {
        Run r = new Run("late", 2, 3, 2, 8);
        r.beginAndPrewrite(1, 0, 10, 1);
        r.due(2).stamp(0);
        r.writeAll(3, 1, 20, 2);
        r.due(OK).commit(0, 1);
        both(r, 1, 9, 10, 2);
        both(r, 2, 9, 20, 4);
        both(r, 2, 3, ABSENT, ABSENT);
    }
}
