/** The edges that promise 13 (holder) names; each run is named after the words or the case that it tests. */
final class Edge13Test extends Names {
    public static void main(String[] args) {
        rowOutOfRange();
        noHolder();
        whateverItsLeaseLeft();
        pendingAlone();
        rolledBackHoldsNoRow();
        everyRow();
        latestStart();
        Run.end();
    }

    private static void rowOutOfRange() {
        for (int rows = 2; rows <= 8; rows++) {
            Run r = new Run("BAD: row out of range", 1, rows, 1, 8);
            for (int round = 0; round < 2; round++) {
                for (int row : new int[] {LEAST, LEAST + 1, -8, -1, rows, rows + 1, 8, 9, 64, MOST - 1, MOST}) {
                    r.same(BAD).holder(row);
                }
                r.same(round == 0 ? ABSENT : 1).holder(rows - 1);
                if (round == 0) {
                    r.beginAndPrewrite(1, 0, 5, 0, rows - 1);
                }
            }
        }
    }

    private static void noHolder() {
        Run r = new Run("ABSENT if there is none", 1, 8, 1, 8);
        for (int row = 0; row < 8; row++) {
            r.same(ABSENT).holder(row);
        }
        r.beginAndPrewrite(1, 0, 5, 3);
        for (int row = 0; row < 8; row++) {
            r.same(row == 3 ? 1 : ABSENT).holder(row);
        }
    }

    private static void whateverItsLeaseLeft() {
        Run r = new Run("whatever its lease left", 1, 2, 2, 8);
        r.beginAndPrewrite(1, 0, 5, 0);
        for (int left : new int[] {2, 1, 0, 0}) {
            r.due(left).leaseLeft(1);
            r.same(1).holder(0);
            r.due(OK).tick(1);
        }
        r.due(OK).crash(0);
        r.same(1).holder(0);
    }

    private static void pendingAlone() {
        Run r = new Run("the PENDING transaction that holds the row", 2, 3, 2, 8);
        r.beginAndPut(1, 0, 5, 0, 1);
        r.same(ABSENT).holder(0);
        r.due(OK).prewrite(0, 0);
        r.same(1).holder(0);
        r.same(ABSENT).holder(1);
        r.due(OK).prewrite(0, 1);
        r.due(2).stamp(0);
        r.same(1).holder(1);
        r.due(OK).commit(0, 0);
        r.same(ABSENT).holder(0);
        r.same(ABSENT).holder(1);
        r.due(ST_PREWRITTEN).stage(0, 1);
    }

    private static void rolledBackHoldsNoRow() {
        Run r = new Run("ABSENT after a roll back, the next one's start after its prewrite", 3, 3, 1, 8);
        r.beginAndPrewrite(1, 0, 5, 0, 1);
        r.due(OK).tick(1);
        r.due(2).begin(1);
        r.due(ABSENT).read(1, 1);
        r.same(ABSENT).holder(0);
        r.same(ABSENT).holder(1);
        r.beginAndPrewrite(3, 2, 6, 1);
        r.same(3).holder(1);
        r.due(OK).put(1, 1, 7);
        r.due(OK).tick(1);
        r.due(OK).prewrite(1, 1);
        r.same(2).holder(1);
        r.due(OK).abandon(1);
        r.same(ABSENT).holder(1);
    }

    private static void everyRow() {
        Run r = new Run("each row has a holder of its own", 8, 8, 1, 8);
        for (int client = 0; client < 8; client++) {
            r.beginAndPrewrite(client + 1, client, 5, 7 - client);
        }
        for (int row = 0; row < 8; row++) {
            r.same(8 - row).holder(row);
        }
        r.due(OK).abandon(4);
        for (int row = 0; row < 8; row++) {
            r.same(row == 3 ? ABSENT : 8 - row).holder(row);
        }
    }

    private static void latestStart() {
        Run r = new Run("the greatest start timestamp", 1, 2, 1, 32);
        for (int start = 1; start < 63; start += 2) {
            r.writeAll(start, 0, 5, 0);
        }
        r.beginAndPrewrite(63, 0, 5, 0);
        r.same(63).holder(0);
        r.due(64).stamp(0);
        r.same(63).holder(0);
        r.due(OK).commit(0, 0);
        r.same(ABSENT).holder(0);
    }
}
