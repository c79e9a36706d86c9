/** Promise 8: abandon. */
final class Promise08Test extends Names {
    public static void main(String[] args) {
        unbornStaysUnborn();
        pendingIsRolledBack();
        rolledBackIsGone();
        refusals();
        othersAreLeftAlone();
        Run.end();
    }

    private static void unbornStaysUnborn() {
        Run r = new Run("unborn", 1, 2, 2, 8);
        r.due(1).begin(0);
        r.due(OK).put(0, 1, 4);
        r.due(OK).abandon(0);
        r.due(PH_IDLE).phase(0);
        r.due(NOT_PUT).value(0, 1);
        r.due(ABSENT).fate(1);
        r.due(ABSENT).look(0, LOOK_START, 0);
        r.due(2).begin(0);
    }

    private static void pendingIsRolledBack() {
        for (int ticks = 1; ticks <= 3; ticks++) {
            Run r = new Run("pending, ticks " + ticks, 2, 3, 3, 8);
            r.beginAndPrewrite(1, 0, 4, 0, 2);
            r.due(OK).tick(ticks);
            r.due(3 - ticks).leaseLeft(1);
            r.due(OK).abandon(0);
            r.due(PH_IDLE).phase(0);
            r.due(ST_NONE).stage(0, 0);
            r.due(ABSENT).fate(1);
            r.due(ABSENT).leaseLeft(1);
            r.due(ABSENT).holder(0);
            r.due(ABSENT).holder(2);
            r.due(ABSENT).versionTime(0, 99);
        }
        Run r = new Run("stamped", 2, 3, 3, 8);
        r.beginAndPrewrite(1, 0, 4, 0, 2);
        r.due(2).stamp(0);
        r.due(OK).abandon(0);
        r.due(ABSENT).fate(1);
        r.due(ABSENT).holder(2);
        r.due(ABSENT).versionTime(0, 99);
        r.due(ABSENT).look(0, LOOK_STAMP, 0);
        r.due(3).begin(1);
    }

    private static void rolledBackIsGone() {
        for (int stamped = 0; stamped <= 1; stamped++) {
            Run r = new Run("gone, stamped " + stamped, 2, 3, 1, 8);
            r.beginAndPrewrite(1, 0, 4, 0);
            r.due(OK).tick(1);
            r.beginAndPrewrite(2, 1, 5, 0);
            if (stamped == 1) {
                r.due(3).stamp(0);
            }
            r.due(GONE).abandon(0);
            r.due(PH_IDLE).phase(0);
            r.due(ABSENT).fate(1);
            r.due(2).holder(0);
            r.due(PENDING).fate(2);
            r.due(1).leaseLeft(2);
            r.same(NO_TXN).abandon(0);
        }
    }

    private static void refusals() {
        Run r = new Run("refusals", 1, 3, 2, 8);
        r.same(BAD).abandon(1);
        r.same(BAD).abandon(-1);
        r.same(NO_TXN).abandon(0);
        r.beginAndPrewrite(1, 0, 4, 0, 1);
        r.due(2).stamp(0);
        r.due(OK).commit(0, 0);
        r.same(NOT_NOW).abandon(0);
        r.due(OK).commit(0, 1);
        r.same(NO_TXN).abandon(0);
        r.due(2).fate(1);
    }

    private static void othersAreLeftAlone() {
        Run r = new Run("others", 3, 3, 4, 8);
        r.writeAll(1, 2, 3, 2);
        r.beginAndPrewrite(3, 0, 4, 0);
        r.due(OK).tick(1);
        r.beginAndPrewrite(4, 1, 5, 1);
        r.due(OK).abandon(1);
        r.due(3).leaseLeft(3);
        r.due(3).holder(0);
        r.due(PH_PREWRITING).phase(0);
        r.due(4).value(0, 0);
        r.due(3).peek(2, 2);
        r.due(2).fate(1);
        // The begins are still counted: three have been, five are left.
        for (int start = 5; start <= 9; start++) {
            r.due(start).begin(1);
            r.due(OK).abandon(1);
        }
        r.same(FULL).begin(1);
    }
}
