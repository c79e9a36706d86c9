/** Promise 4: prewrite. */
final class Promise04Test extends Names {
    public static void main(String[] args) {
        firstAndSecondRow();
        orderOfConditions();
        wrongPhases();
        lockedWhateverTheStart();
        spentLeaseIsRolledBack();
        rollBackStaysBehindAConflict();
        conflictEdges();
        ownTransactionRolledBack();
        rolledBackOwnStillMeetsLocksAndConflicts();
        ownCrashedTransactionIsAnother();
        Run.end();
    }

    private static void firstAndSecondRow() {
        Run r = new Run("rows", 2, 3, 5, 8);
        r.due(1).begin(0);
        r.due(OK).put(0, 2, 12);
        r.due(OK).put(0, 1, 11);
        r.due(OK).prewrite(0, 2);
        r.due(PH_PREWRITING).phase(0);
        r.due(2).look(0, LOOK_PRIMARY, 0);
        r.due(ST_PREWRITTEN).stage(0, 2);
        r.due(ST_PUT).stage(0, 1);
        r.due(12).value(0, 2);
        r.due(1).holder(2);
        r.due(ABSENT).holder(1);
        r.due(PENDING).fate(1);
        r.due(5).leaseLeft(1);
        r.due(OK).tick(2);
        r.due(OK).prewrite(0, 1);
        r.due(3).leaseLeft(1);
        r.due(1).holder(1);
        r.due(1).holder(2);
        r.due(2).look(0, LOOK_PRIMARY, 0);
        r.due(PH_PREWRITING).phase(0);
        r.due(11).value(0, 1);
        r.due(ABSENT).versionTime(1, 99);
        // The clock has stayed.
        r.due(2).begin(1);
    }

    private static void orderOfConditions() {
        Run r = new Run("order", 2, 3, 5, 8);
        r.same(BAD).prewrite(2, 0);
        r.same(BAD).prewrite(-1, 0);
        r.same(BAD).prewrite(0, 3);
        r.same(BAD).prewrite(0, -1);
        r.same(NO_TXN).prewrite(0, 0);
        r.due(1).begin(0);
        r.same(NOT_PUT).prewrite(0, 0);
        r.due(OK).put(0, 0, 1);
        r.due(OK).put(0, 1, 1);
        r.due(OK).prewrite(0, 0);
        r.same(ALREADY).prewrite(0, 0);
        r.same(NOT_PUT).prewrite(0, 2);
        r.due(OK).tick(5);
        // Its own hold, even a spent one, is not in its way.
        r.same(ALREADY).prewrite(0, 0);
        // A row not put isn't looked at for a holder: nobody is rolled back.
        r.due(2).begin(1);
        r.same(NOT_PUT).prewrite(1, 0);
        r.due(1).holder(0);
    }

    private static void wrongPhases() {
        Run r = new Run("phases", 1, 3, 5, 8);
        r.beginAndPrewrite(1, 0, 1, 0, 1);
        r.due(2).stamp(0);
        r.same(NOT_NOW).prewrite(0, 0);
        r.same(NOT_NOW).prewrite(0, 2);
        r.due(OK).commit(0, 0);
        r.same(NOT_NOW).prewrite(0, 0);
        r.same(NOT_NOW).prewrite(0, 1);
        r.same(NOT_NOW).prewrite(0, 2);
        r.due(OK).commit(0, 1);
        r.same(NO_TXN).prewrite(0, 1);
    }

    private static void lockedWhateverTheStart() {
        Run r = new Run("locked", 3, 3, 2, 8);
        r.due(1).begin(0);
        r.beginAndPrewrite(2, 1, 20, 0);
        r.due(3).begin(2);
        r.due(OK).put(0, 0, 10);
        r.due(OK).put(2, 0, 30);
        r.same(LOCKED).prewrite(0, 0);
        r.same(LOCKED).prewrite(2, 0);
        r.due(OK).tick(1);
        r.same(LOCKED).prewrite(0, 0);
        r.same(LOCKED).prewrite(2, 0);
        r.due(PH_BUFFERING).phase(0);
    }

    private static void spentLeaseIsRolledBack() {
        for (int client = 0; client <= 2; client += 2) {
            Run r = new Run("spent, client " + client, 3, 3, 2, 8);
            r.due(1).begin(0);
            r.beginAndPrewrite(2, 1, 20, 0, 2);
            r.due(3).begin(2);
            r.due(OK).put(client, 2, 10);
            r.due(OK).tick(2);
            r.due(OK).prewrite(client, 2);
            r.due(ABSENT).fate(2);
            r.due(ABSENT).holder(0);
            r.due(client + 1).holder(2);
            r.due(2).leaseLeft(client + 1);
            r.due(PENDING).fate(client + 1);
        }
    }

    private static void rollBackStaysBehindAConflict() {
        Run r = new Run("roll back and conflict", 3, 3, 2, 8);
        r.due(1).begin(0);
        r.due(OK).put(0, 0, 10);
        r.writeAll(2, 1, 20, 0);
        r.beginAndPrewrite(4, 2, 40, 0, 1);
        r.same(LOCKED).prewrite(0, 0);
        r.due(OK).tick(9);
        r.due(CONFLICT).prewrite(0, 0);
        r.due(ABSENT).fate(4);
        r.due(ABSENT).holder(0);
        r.due(ABSENT).holder(1);
        r.due(PH_BUFFERING).phase(0);
        r.due(ST_PUT).stage(0, 0);
        r.due(10).value(0, 0);
        r.due(ABSENT).look(0, LOOK_PRIMARY, 0);
        r.due(ABSENT).fate(1);
        r.same(CONFLICT).prewrite(0, 0);
    }

    private static void conflictEdges() {
        Run r = new Run("conflict", 3, 3, 2, 8);
        r.beginAndPrewrite(1, 0, 10, 0);
        r.due(2).begin(1);
        r.due(OK).put(1, 0, 20);
        r.due(OK).put(1, 1, 21);
        r.due(3).stamp(0);
        r.due(OK).commit(0, 0);
        r.same(CONFLICT).prewrite(1, 0);
        r.due(OK).prewrite(1, 1);
        // Also as second row: the own transaction keeps what it holds.
        r.same(CONFLICT).prewrite(1, 0);
        r.due(2).holder(1);
        // A version below the start is no conflict.
        r.due(4).begin(2);
        r.due(OK).put(2, 0, 40);
        r.due(OK).prewrite(2, 0);
        // A version of value -1 is a version too.
        Run v = new Run("conflict with -1", 2, 2, 2, 8);
        v.due(1).begin(0);
        v.due(OK).put(0, 0, 10);
        v.writeAll(2, 1, -1, 0);
        v.same(CONFLICT).prewrite(0, 0);
    }

    private static void ownTransactionRolledBack() {
        Run r = new Run("own rolled back", 2, 4, 1, 8);
        r.due(1).begin(0);
        for (int row = 0; row < 3; row++) {
            r.due(OK).put(0, row, 10 + row);
        }
        r.due(OK).prewrite(0, 1);
        r.due(OK).tick(1);
        r.due(2).begin(1);
        r.due(ABSENT).read(1, 1);
        r.due(OK).prewrite(0, 0);
        r.due(ST_PREWRITTEN).stage(0, 0);
        r.due(10).value(0, 0);
        r.due(ABSENT).holder(0);
        r.due(ABSENT).fate(1);
        r.due(ABSENT).leaseLeft(1);
        r.due(PH_PREWRITING).phase(0);
        r.due(1).look(0, LOOK_PRIMARY, 0);
        r.same(ALREADY).prewrite(0, 0);
        // The row is free for others, and stays theirs.
        r.due(OK).put(1, 0, 20);
        r.due(OK).put(1, 1, 21);
        r.due(OK).prewrite(1, 0);
        r.due(OK).prewrite(1, 1);
        r.due(2).holder(0);
        r.due(OK).prewrite(0, 2);
        r.due(2).holder(0);
        r.due(ABSENT).holder(2);
    }

    private static void rolledBackOwnStillMeetsLocksAndConflicts() {
        Run r = new Run("own rolled back, steps 6 and 7", 4, 4, 2, 16);
        r.due(1).begin(0);
        for (int row = 0; row < 4; row++) {
            r.due(OK).put(0, row, 10 + row);
        }
        r.due(OK).prewrite(0, 0);
        r.due(OK).tick(2);
        r.beginAndPrewrite(2, 1, 20, 0);
        r.due(ABSENT).fate(1);
        r.beginAndPrewrite(3, 2, 30, 1);
        r.same(LOCKED).prewrite(0, 1);
        r.due(OK).tick(2);
        r.due(OK).prewrite(0, 1);
        r.due(ABSENT).fate(3);
        r.due(ABSENT).holder(1);
        r.writeAll(4, 3, 40, 2);
        r.same(CONFLICT).prewrite(0, 2);
        r.beginAndPrewrite(6, 3, 60, 2);
        r.due(OK).tick(2);
        r.due(CONFLICT).prewrite(0, 2);
        r.due(ABSENT).fate(6);
    }

    private static void ownCrashedTransactionIsAnother() {
        Run r = new Run("own crashed", 1, 2, 2, 8);
        r.beginAndPrewrite(1, 0, 10, 0);
        r.due(OK).crash(0);
        r.due(2).begin(0);
        r.due(OK).put(0, 0, 20);
        r.same(LOCKED).prewrite(0, 0);
        r.due(OK).tick(1);
        r.same(LOCKED).prewrite(0, 0);
        r.due(OK).tick(1);
        r.due(OK).prewrite(0, 0);
        r.due(2).holder(0);
        r.due(ABSENT).fate(1);
    }
}
