/** Promise 13: holder. */
final class Promise13Test extends Names {
    public static void main(String[] args) {
        rowsOutOfRange();
        fromPrewriteToCommit();
        afterCrashAndRollBack();
        Run.end();
    }

    private static void rowsOutOfRange() {
        Run r = new Run("rows", 1, 3, 2, 8);
        for (int row : new int[] {-1, 3, 8, Integer.MIN_VALUE, Integer.MAX_VALUE}) {
            r.same(BAD).holder(row);
        }
        for (int row = 0; row < 3; row++) {
            r.same(ABSENT).holder(row);
        }
    }

    private static void fromPrewriteToCommit() {
        Run r = new Run("commit", 2, 3, 2, 8);
        r.due(1).begin(1);
        r.due(2).begin(0);
        r.due(OK).put(0, 1, 5);
        r.same(ABSENT).holder(1);
        r.due(OK).prewrite(0, 1);
        r.same(2).holder(1);
        r.same(ABSENT).holder(0);
        r.same(ABSENT).holder(2);
        r.due(OK).tick(9);
        r.same(2).holder(1);
        r.due(3).stamp(0);
        r.same(2).holder(1);
        r.due(OK).commit(0, 1);
        r.same(ABSENT).holder(1);
    }

    private static void afterCrashAndRollBack() {
        Run r = new Run("crash", 2, 3, 2, 8);
        r.beginAndPrewrite(1, 0, 5, 1, 2);
        r.due(OK).crash(0);
        r.same(1).holder(1);
        r.due(OK).tick(2);
        r.same(1).holder(1);
        r.beginAndPrewrite(2, 0, 6, 1);
        r.same(2).holder(1);
        r.same(ABSENT).holder(2);
        r.due(OK).abandon(0);
        r.same(ABSENT).holder(1);
    }
}
