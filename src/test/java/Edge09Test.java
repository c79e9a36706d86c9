/** The edges that promise 9 (crash) names; each run is named after the words or the case that it tests. */
final class Edge09Test extends Names {
    public static void main(String[] args) {
        clientOutOfRange();
        idleClient();
        inAnyOtherPhase();
        rolledBackOwner();
        leaseLeftStays();
        keepsTheVersionsOfAllItsRows();
        stillCounted();
        clockStays();
        Run.end();
    }

    private static void clientOutOfRange() {
        Run r = new Run("BAD: client out of range", 2, 2, 1, 8);
        r.due(1).begin(0);
        r.beginAndPrewrite(2, 1, 5, 0);
        for (int client : new int[] {LEAST, -1, 2, 8, MOST}) {
            r.same(BAD).crash(client);
        }
    }

    private static void idleClient() {
        Run r = new Run("NO_TXN: the client is idle", 2, 2, 1, 8);
        r.same(NO_TXN).crash(0);
        r.due(1).begin(0);
        r.same(NO_TXN).crash(1);
        r.due(OK).crash(0);
        r.same(NO_TXN).crash(0);
        r.writeAll(2, 0, 5, 0);
        r.same(NO_TXN).crash(0);
        r.due(4).begin(0);
        r.due(OK).abandon(0);
        r.same(NO_TXN).crash(0);
    }

    private static void inAnyOtherPhase() {
        Run r = new Run("in any other phase, the client becomes idle", 1, 8, 3, 8);
        r.due(1).begin(0);
        r.turns(OK, "phase 0: 1 > 0", "start 0: 1 > -1").crash(0);
        r.beginAndPut(2, 0, 5, 0, 1);
        r.due(OK).prewrite(0, 0);
        r.turns(OK, "phase 0: 2 > 0", "start 0: 2 > -1", "primary 0: 0 > -1", "stage 0.0: 2 > 0",
                "value 0.0: 5 > -7", "stage 0.1: 1 > 0", "value 0.1: 5 > -7").crash(0);
        r.beginAndPrewrite(3, 0, 6, 2, 3);
        r.due(4).stamp(0);
        r.turns(OK, "phase 0: 3 > 0", "start 0: 3 > -1", "stamp 0: 4 > -1", "primary 0: 2 > -1",
                "stage 0.2: 2 > 0", "value 0.2: 6 > -7", "stage 0.3: 2 > 0", "value 0.3: 6 > -7").crash(0);
        r.beginAndPrewrite(5, 0, 7, 4, 5, 7);
        r.due(6).stamp(0);
        r.due(OK).commit(0, 4);
        r.due(OK).commit(0, 7);
        r.turns(OK, "phase 0: 4 > 0", "start 0: 5 > -1", "stamp 0: 6 > -1", "primary 0: 4 > -1",
                "stage 0.4: 3 > 0", "value 0.4: 7 > -7", "stage 0.5: 2 > 0", "value 0.5: 7 > -7",
                "stage 0.7: 3 > 0", "value 0.7: 7 > -7").crash(0);
    }

    private static void rolledBackOwner() {
        Run r = new Run("OK, also when the own transaction has been rolled back", 2, 2, 1, 8);
        r.beginAndPrewrite(1, 0, 5, 0);
        r.due(OK).tick(1);
        r.beginAndPrewrite(2, 1, 6, 0);
        r.turns(OK, "phase 0: 2 > 0", "start 0: 1 > -1", "primary 0: 0 > -1", "stage 0.0: 2 > 0",
                "value 0.0: 5 > -7").crash(0);
        r.due(2).holder(0);
        r.due(ABSENT).fate(1);
    }

    private static void leaseLeftStays() {
        for (int ticks = 1; ticks <= 3; ticks++) {
            Run r = new Run("The transaction's fate, lease left and holds are unchanged", 2, 2, 2, 8);
            r.beginAndPrewrite(1, 0, 5, 0, 1);
            r.due(OK).tick(ticks);
            r.due(OK).crash(0);
            int left = Math.max(0, 2 - ticks);
            r.due(left).leaseLeft(1);
            r.due(PENDING).fate(1);
            r.due(1).holder(0);
            r.due(1).holder(1);
            r.due(2).begin(1);
            r.due(left > 0 ? LOCKED : ABSENT).read(1, 1);
            r.due(left > 0 ? PENDING : ABSENT).fate(1);
        }
    }

    private static void keepsTheVersionsOfAllItsRows() {
        Run r = new Run("A COMMITTED transaction keeps the versions of all its rows", 2, 8, 1, 8);
        r.beginAndPrewrite(1, 0, 5, 3, 0, 7);
        r.due(2).stamp(0);
        r.due(OK).commit(0, 3);
        r.due(ST_PREWRITTEN).stage(0, 7);
        r.due(OK).crash(0);
        r.due(2).fate(1);
        r.due(3).begin(1);
        for (int row : new int[] {0, 3, 7}) {
            r.due(2).versionTime(row, MOST);
            r.same(5).read(1, row);
            r.due(ABSENT).holder(row);
        }
    }

    private static void stillCounted() {
        Run r = new Run("a begin that ended in a crash is counted", 1, 2, 1, 8);
        r.passBegins(1, 8, 0);
        r.same(FULL).begin(0);
        r.same(NO_TXN).crash(0);
    }

    private static void clockStays() {
        Run r = new Run("and so is the clock", 1, 2, 1, 8);
        r.due(1).begin(0);
        r.due(OK).crash(0);
        r.beginAndPrewrite(2, 0, 5, 0);
        r.due(3).stamp(0);
        r.due(OK).crash(0);
        r.due(NO_TXN).crash(0);
        r.due(BAD).crash(1);
        r.due(4).begin(0);
    }
}
