/** Promise 2: begin. */
final class Promise02Test extends Names {
    public static void main(String[] args) {
        freshTransaction();
        busyInEveryPhase();
        fullWhateverBecameOfThem();
        orderOfConditions();
        nothingElseChanges();
        Run.end();
    }

    private static void freshTransaction() {
        Run r = new Run("fresh transaction", 2, 3, 2, 8);
        r.due(1).begin(1);
        r.due(PH_BUFFERING).phase(1);
        r.due(1).look(1, LOOK_START, 0);
        r.due(ABSENT).look(1, LOOK_STAMP, 0);
        r.due(ABSENT).look(1, LOOK_PRIMARY, 0);
        for (int row = 0; row < 3; row++) {
            r.due(ST_NONE).stage(1, row);
            r.due(NOT_PUT).value(1, row);
        }
        r.due(ABSENT).fate(1);
        r.due(ABSENT).leaseLeft(1);
        r.due(PH_IDLE).phase(0);
        r.due(2).begin(0);
        // After a crash in the middle nothing of the old transaction is left to the client.
        r.due(OK).put(1, 2, 9);
        r.due(OK).prewrite(1, 2);
        r.due(3).stamp(1);
        r.due(OK).crash(1);
        r.due(4).begin(1);
        r.due(ST_NONE).stage(1, 2);
        r.due(NOT_PUT).value(1, 2);
        r.due(ABSENT).look(1, LOOK_STAMP, 0);
        r.due(ABSENT).look(1, LOOK_PRIMARY, 0);
    }

    private static void busyInEveryPhase() {
        Run r = new Run("busy", 1, 3, 2, 8);
        r.due(1).begin(0);
        r.same(BUSY).begin(0);
        r.due(OK).put(0, 0, 1);
        r.due(OK).put(0, 1, 1);
        r.due(OK).prewrite(0, 0);
        r.due(OK).prewrite(0, 1);
        r.same(BUSY).begin(0);
        r.due(2).stamp(0);
        r.same(BUSY).begin(0);
        r.due(OK).commit(0, 0);
        r.same(BUSY).begin(0);
        r.due(OK).commit(0, 1);
        // No refusal has drawn a timestamp.
        r.due(3).begin(0);
    }

    private static void fullWhateverBecameOfThem() {
        Run r = new Run("full", 3, 2, 1, 8);
        r.due(1).begin(0);
        r.due(OK).abandon(0);
        r.due(2).begin(0);
        r.due(OK).crash(0);
        r.writeAll(3, 0, 7, 0);
        r.beginAndPrewrite(5, 0, 7, 0);
        r.due(OK).abandon(0);
        r.beginAndPrewrite(6, 0, 7, 0);
        r.due(OK).crash(0);
        r.due(7).begin(0);
        r.due(8).begin(1);
        r.due(OK).crash(1);
        r.due(9).begin(1);
        r.same(FULL).begin(2);
        r.due(OK).abandon(1);
        r.same(FULL).begin(1);
        // A refusal draws nothing, so the next stamp follows the last begin.
        r.due(OK).put(0, 1, 4);
        r.due(OK).prewrite(0, 1);
        r.due(10).stamp(0);
    }

    private static void orderOfConditions() {
        Run r = new Run("order", 1, 2, 1, 8);
        for (int start = 1; start < 8; start++) {
            r.due(start).begin(0);
            r.due(OK).crash(0);
        }
        r.due(8).begin(0);
        r.same(BUSY).begin(0);
        r.same(BAD).begin(1);
        r.same(BAD).begin(-1);
        r.due(OK).crash(0);
        r.same(FULL).begin(0);
        r.same(BAD).begin(1);
    }

    private static void nothingElseChanges() {
        Run r = new Run("nothing else", 3, 2, 4, 8);
        r.beginAndPrewrite(1, 0, 6, 0);
        r.due(OK).tick(1);
        r.due(2).begin(1);
        r.due(OK).put(1, 1, 8);
        r.due(3).begin(2);
        r.due(3).leaseLeft(1);
        r.due(1).holder(0);
        r.due(PENDING).fate(1);
        r.due(PH_PREWRITING).phase(0);
        r.due(6).value(0, 0);
        r.due(8).value(1, 1);
        r.due(2).look(1, LOOK_START, 0);
    }
}
