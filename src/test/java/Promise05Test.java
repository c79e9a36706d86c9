/** Promise 5: stamp. */
final class Promise05Test extends Names {
    public static void main(String[] args) {
        drawsAndChangesThePhaseAlone();
        refusals();
        rolledBackMakesNoDifference();
        Run.end();
    }

    private static void drawsAndChangesThePhaseAlone() {
        Run r = new Run("stamp", 2, 3, 4, 8);
        r.beginAndPrewrite(1, 0, 7, 2, 0);
        r.due(OK).tick(1);
        r.due(2).begin(1);
        r.due(3).stamp(0);
        r.due(PH_STAMPED).phase(0);
        r.due(3).look(0, LOOK_STAMP, 0);
        r.due(1).look(0, LOOK_START, 0);
        r.due(2).look(0, LOOK_PRIMARY, 0);
        r.due(ST_PREWRITTEN).stage(0, 0);
        r.due(ST_PREWRITTEN).stage(0, 2);
        r.due(7).value(0, 0);
        r.due(PENDING).fate(1);
        r.due(3).leaseLeft(1);
        r.due(1).holder(0);
        r.due(1).holder(2);
        r.due(ABSENT).versionTime(0, 99);
        r.due(PH_BUFFERING).phase(1);
        r.due(ABSENT).look(1, LOOK_STAMP, 0);
    }

    private static void refusals() {
        Run r = new Run("refusals", 1, 3, 4, 8);
        r.same(BAD).stamp(1);
        r.same(BAD).stamp(-1);
        r.same(NO_TXN).stamp(0);
        r.due(1).begin(0);
        r.same(NOT_NOW).stamp(0);
        r.due(OK).put(0, 0, 7);
        r.due(OK).put(0, 2, 7);
        r.same(NOT_NOW).stamp(0);
        r.due(OK).prewrite(0, 0);
        r.same(NOT_NOW).stamp(0);
        r.due(OK).prewrite(0, 2);
        // No refusal has drawn a timestamp.
        r.due(2).stamp(0);
        r.same(NOT_NOW).stamp(0);
        r.due(OK).commit(0, 0);
        r.same(NOT_NOW).stamp(0);
        r.due(OK).commit(0, 2);
        r.same(NO_TXN).stamp(0);
        r.due(3).begin(0);
    }

    private static void rolledBackMakesNoDifference() {
        Run r = new Run("rolled back", 2, 3, 1, 8);
        r.due(1).begin(0);
        r.due(OK).put(0, 0, 7);
        r.due(OK).put(0, 1, 7);
        r.due(OK).prewrite(0, 0);
        r.due(OK).tick(1);
        r.due(2).begin(1);
        r.due(ABSENT).read(1, 0);
        r.same(NOT_NOW).stamp(0);
        r.due(OK).prewrite(0, 1);
        r.due(3).stamp(0);
        r.due(PH_STAMPED).phase(0);
        r.due(3).look(0, LOOK_STAMP, 0);
        r.due(ABSENT).fate(1);
        r.due(ABSENT).holder(1);
        r.due(ABSENT).leaseLeft(1);
        r.due(ABSENT).versionTime(0, 99);
    }
}
