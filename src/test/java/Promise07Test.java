/** Promise 7: heartbeat. */
final class Promise07Test extends Names {
    public static void main(String[] args) {
        fullLeaseAgain();
        refusals();
        rolledBackIsGone();
        Run.end();
    }

    private static void fullLeaseAgain() {
        Run r = new Run("full again", 2, 3, 5, 8);
        r.beginAndPrewrite(1, 0, 7, 0);
        r.beginAndPrewrite(2, 1, 8, 1);
        r.due(OK).tick(3);
        r.due(OK).heartbeat(0);
        r.due(5).leaseLeft(1);
        r.due(2).leaseLeft(2);
        r.same(OK).heartbeat(0);
        r.due(OK).tick(99);
        r.due(0).leaseLeft(1);
        r.due(OK).heartbeat(0);
        r.due(5).leaseLeft(1);
        r.due(0).leaseLeft(2);
        r.due(PH_PREWRITING).phase(0);
        r.due(1).holder(0);
        r.due(2).holder(1);
        r.due(3).stamp(0);
        r.due(OK).tick(5);
        r.due(OK).heartbeat(0);
        r.due(5).leaseLeft(1);
        r.due(PH_STAMPED).phase(0);
        r.due(3).look(0, LOOK_STAMP, 0);
        r.due(PENDING).fate(1);
        r.due(OK).crash(0);
        r.due(4).begin(0);
    }

    private static void refusals() {
        Run r = new Run("refusals", 1, 3, 5, 8);
        r.same(BAD).heartbeat(1);
        r.same(BAD).heartbeat(-1);
        r.same(NO_TXN).heartbeat(0);
        r.due(1).begin(0);
        r.same(NOT_NOW).heartbeat(0);
        r.due(OK).put(0, 0, 1);
        r.due(OK).put(0, 1, 1);
        r.same(NOT_NOW).heartbeat(0);
        r.due(OK).prewrite(0, 0);
        r.due(OK).prewrite(0, 1);
        r.due(2).stamp(0);
        r.due(OK).commit(0, 0);
        r.same(NOT_NOW).heartbeat(0);
        r.due(OK).commit(0, 1);
        r.same(NO_TXN).heartbeat(0);
    }

    private static void rolledBackIsGone() {
        Run r = new Run("gone", 2, 3, 1, 8);
        r.beginAndPrewrite(1, 0, 7, 0, 1);
        r.due(OK).tick(1);
        r.due(2).begin(1);
        r.due(ABSENT).read(1, 0);
        r.same(GONE).heartbeat(0);
        r.due(PH_PREWRITING).phase(0);
        r.due(ABSENT).leaseLeft(1);
        r.due(3).stamp(0);
        r.same(GONE).heartbeat(0);
        r.due(PH_STAMPED).phase(0);
        r.due(ABSENT).fate(1);
        r.due(GONE).commit(0, 0);
    }
}
