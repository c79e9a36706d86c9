/** Promise 9: crash. */
final class Promise09Test extends Names {
    public static void main(String[] args) {
        refusals();
        inEveryPhase();
        committedKeepsAllVersions();
        rolledBackStaysSo();
        Run.end();
    }

    private static void refusals() {
        Run r = new Run("refusals", 2, 2, 2, 8);
        r.same(BAD).crash(2);
        r.same(BAD).crash(-1);
        r.same(NO_TXN).crash(0);
        r.due(1).begin(1);
        r.same(NO_TXN).crash(0);
        r.due(OK).crash(1);
        r.same(NO_TXN).crash(1);
        r.due(2).begin(1);
    }

    private static void inEveryPhase() {
        Run r = new Run("phases", 2, 4, 5, 8);
        r.due(1).begin(0);
        r.due(OK).put(0, 0, 9);
        r.due(OK).crash(0);
        idle(r, 0);
        r.due(ABSENT).fate(1);
        r.beginAndPrewrite(2, 0, 9, 0);
        r.due(OK).tick(2);
        r.due(OK).crash(0);
        idle(r, 0);
        r.due(PENDING).fate(2);
        r.due(3).leaseLeft(2);
        r.due(2).holder(0);
        r.beginAndPrewrite(3, 0, 9, 1, 2);
        r.due(4).stamp(0);
        r.due(OK).crash(0);
        idle(r, 0);
        r.due(PENDING).fate(3);
        r.due(5).leaseLeft(3);
        r.due(3).holder(1);
        r.due(3).holder(2);
        r.due(ABSENT).versionTime(1, 99);
        r.due(5).begin(1);
        r.due(LOCKED).read(1, 1);
    }

    private static void idle(Run r, int client) {
        r.due(PH_IDLE).phase(client);
        r.due(ABSENT).look(client, LOOK_START, 0);
        r.due(ABSENT).look(client, LOOK_STAMP, 0);
        r.due(ABSENT).look(client, LOOK_PRIMARY, 0);
        for (int row = 0; row < 4; row++) {
            r.due(ST_NONE).stage(client, row);
            r.due(NOT_PUT).value(client, row);
        }
    }

    private static void committedKeepsAllVersions() {
        Run r = new Run("committed", 1, 4, 5, 8);
        r.beginAndPrewrite(1, 0, 9, 1, 2, 3);
        r.due(2).stamp(0);
        r.due(OK).commit(0, 1);
        r.due(OK).commit(0, 2);
        r.due(OK).crash(0);
        idle(r, 0);
        r.due(2).fate(1);
        for (int row = 1; row < 4; row++) {
            r.due(9).peek(row, 2);
            r.due(2).versionTime(row, 2);
            r.due(ABSENT).holder(row);
        }
        r.due(3).begin(0);
        r.due(9).read(0, 3);
    }

    private static void rolledBackStaysSo() {
        Run r = new Run("rolled back", 2, 4, 1, 8);
        r.beginAndPrewrite(1, 0, 9, 1);
        r.due(OK).tick(1);
        r.due(2).begin(1);
        r.due(ABSENT).read(1, 1);
        r.due(OK).crash(0);
        idle(r, 0);
        r.due(ABSENT).fate(1);
        r.due(ABSENT).holder(1);
    }
}
