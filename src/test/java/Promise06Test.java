/** Promise 6: commit. */
final class Promise06Test extends Names {
    public static void main(String[] args) {
        rowByRow();
        oneRowMakesIdle();
        orderOfConditions();
        leaseSpentButNotRolledBack();
        rolledBackIsGone();
        laterHoldersAreLeftAlone();
        Run.end();
    }

    private static void rowByRow() {
        Run r = new Run("row by row", 2, 4, 3, 8);
        r.due(1).begin(0);
        for (int row = 0; row < 3; row++) {
            r.due(OK).put(0, row, 10 + row);
        }
        r.due(OK).prewrite(0, 1);
        r.due(OK).prewrite(0, 0);
        r.due(OK).prewrite(0, 2);
        r.due(2).stamp(0);
        r.same(NOT_NOW).commit(0, 0);
        r.same(NOT_NOW).commit(0, 2);
        r.due(OK).commit(0, 1);
        r.due(PH_COMMITTED).phase(0);
        r.due(ST_COMMITTED).stage(0, 1);
        r.due(ST_PREWRITTEN).stage(0, 0);
        r.due(ST_PREWRITTEN).stage(0, 2);
        r.due(1).look(0, LOOK_START, 0);
        r.due(2).look(0, LOOK_STAMP, 0);
        r.due(1).look(0, LOOK_PRIMARY, 0);
        r.due(11).value(0, 1);
        r.due(2).fate(1);
        r.due(ABSENT).leaseLeft(1);
        for (int row = 0; row < 3; row++) {
            r.due(ABSENT).holder(row);
            r.due(10 + row).peek(row, 2);
            r.due(2).versionTime(row, 2);
        }
        r.due(ABSENT).versionTime(3, 2);
        r.same(ALREADY).commit(0, 1);
        r.same(NOT_PUT).commit(0, 3);
        r.due(OK).commit(0, 2);
        r.due(ST_COMMITTED).stage(0, 2);
        r.due(PH_COMMITTED).phase(0);
        r.same(ALREADY).commit(0, 2);
        r.due(OK).commit(0, 0);
        r.due(PH_IDLE).phase(0);
        r.due(ST_NONE).stage(0, 1);
        r.due(ABSENT).look(0, LOOK_STAMP, 0);
        r.same(NO_TXN).commit(0, 1);
        r.due(2).fate(1);
        // The clock has stayed.
        r.due(3).begin(1);
    }

    private static void oneRowMakesIdle() {
        Run r = new Run("one row", 1, 2, 3, 8);
        r.beginAndPrewrite(1, 0, 5, 1);
        r.due(2).stamp(0);
        r.due(OK).commit(0, 1);
        r.due(PH_IDLE).phase(0);
        r.due(5).peek(1, 2);
        r.due(ABSENT).peek(1, 1);
        r.due(3).begin(0);
    }

    private static void orderOfConditions() {
        Run r = new Run("order", 1, 3, 3, 8);
        r.same(BAD).commit(1, 0);
        r.same(BAD).commit(-1, 0);
        r.same(BAD).commit(0, 3);
        r.same(BAD).commit(0, -1);
        r.same(NO_TXN).commit(0, 0);
        r.due(1).begin(0);
        r.same(NOT_NOW).commit(0, 0);
        r.due(OK).put(0, 0, 1);
        r.same(NOT_NOW).commit(0, 0);
        r.due(OK).prewrite(0, 0);
        r.same(NOT_NOW).commit(0, 0);
        r.same(NOT_NOW).commit(0, 1);
        r.due(2).stamp(0);
        r.same(NOT_PUT).commit(0, 1);
        r.same(BAD).commit(0, 3);
        r.due(OK).commit(0, 0);
    }

    private static void leaseSpentButNotRolledBack() {
        Run r = new Run("lease spent", 2, 3, 2, 8);
        r.beginAndPrewrite(1, 0, 5, 0, 1);
        r.due(2).stamp(0);
        r.due(OK).tick(100);
        r.due(0).leaseLeft(1);
        r.due(OK).commit(0, 0);
        r.due(2).fate(1);
        r.due(5).peek(1, 2);
    }

    private static void rolledBackIsGone() {
        Run r = new Run("gone", 2, 3, 2, 8);
        r.beginAndPrewrite(1, 0, 5, 0, 1);
        r.due(2).stamp(0);
        r.due(OK).tick(2);
        r.due(3).begin(1);
        r.due(ABSENT).read(1, 1);
        r.same(NOT_NOW).commit(0, 1);
        r.same(NOT_PUT).commit(0, 2);
        r.due(GONE).commit(0, 0);
        r.due(PH_IDLE).phase(0);
        r.due(ST_NONE).stage(0, 0);
        r.due(ABSENT).look(0, LOOK_START, 0);
        r.due(ABSENT).fate(1);
        r.due(ABSENT).versionTime(0, 99);
        r.due(ABSENT).versionTime(1, 99);
        r.same(NO_TXN).commit(0, 0);
        r.due(4).begin(0);
    }

    private static void laterHoldersAreLeftAlone() {
        Run r = new Run("later holders", 2, 3, 4, 8);
        r.beginAndPrewrite(1, 0, 5, 0, 1);
        r.due(2).stamp(0);
        r.due(OK).commit(0, 0);
        r.beginAndPrewrite(3, 1, 6, 1, 2);
        r.due(OK).tick(1);
        r.due(OK).commit(0, 1);
        r.due(3).holder(1);
        r.due(3).leaseLeft(3);
        r.due(PENDING).fate(3);
        // Nor does the commit of one end the holds of another.
        r.beginAndPrewrite(4, 0, 7, 0);
        r.due(5).stamp(0);
        r.due(OK).commit(0, 0);
        r.due(3).holder(1);
        r.due(3).holder(2);
        r.due(5).peek(1, 99);
    }
}
