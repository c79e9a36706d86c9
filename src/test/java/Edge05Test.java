/** The edges that promise 5 (stamp) names; each run is named after the words or the case that it tests. */
final class Edge05Test extends Names {
    public static void main(String[] args) {
        clientOutOfRange();
        idleClient();
        wrongPhase();
        someRowIsOnlyPut();
        theOnlyRowLeft();
        oneRowIsEnough();
        leaseMakesNoDifference();
        rolledBackMakesNoDifference();
        nothingElse();
        theLastStamp();
        refusalDrawsNothing();
        Run.end();
    }

    private static void clientOutOfRange() {
        Run r = new Run("BAD: client out of range", 2, 2, 1, 8);
        r.beginAndPrewrite(1, 0, 5, 0);
        r.beginAndPrewrite(2, 1, 5, 1);
        for (int client : new int[] {LEAST, -1, 2, 8, MOST}) {
            r.same(BAD).stamp(client);
        }
        r.due(3).stamp(1);
    }

    private static void idleClient() {
        Run r = new Run("NO_TXN: the client is idle", 2, 2, 1, 8);
        r.same(NO_TXN).stamp(0);
        r.beginAndPrewrite(1, 1, 5, 0);
        r.same(NO_TXN).stamp(0);
        r.due(OK).crash(1);
        r.same(NO_TXN).stamp(1);
    }

    private static void wrongPhase() {
        Run r = new Run("NOT_NOW: the phase isn't PH_PREWRITING", 1, 3, 1, 8);
        r.due(1).begin(0);
        r.same(NOT_NOW).stamp(0);
        r.due(OK).put(0, 0, 5);
        r.due(OK).put(0, 1, 5);
        r.same(NOT_NOW).stamp(0);
        r.due(OK).prewrite(0, 0);
        r.due(OK).prewrite(0, 1);
        r.turns(2, "phase 0: 2 > 3", "stamp 0: -1 > 2").stamp(0);
        r.same(NOT_NOW).stamp(0);
        r.due(OK).commit(0, 0);
        r.same(NOT_NOW).stamp(0);
        r.due(OK).commit(0, 1);
        r.same(NO_TXN).stamp(0);
    }

    /** Seven rows of eight are prewritten: the one left over may be any. */
    private static void someRowIsOnlyPut() {
        for (int left = 0; left < 8; left++) {
            Run r = new Run("NOT_NOW: some row's stage is ST_PUT, row " + left, 1, 8, 1, 8);
            r.beginAndPut(1, 0, 5, 0, 1, 2, 3, 4, 5, 6, 7);
            for (int row = 0; row < 8; row++) {
                if (row != left) {
                    r.due(OK).prewrite(0, row);
                    r.same(NOT_NOW).stamp(0);
                }
            }
            r.due(OK).prewrite(0, left);
            r.turns(2, "phase 0: 2 > 3", "stamp 0: -1 > 2").stamp(0);
        }
    }

    private static void theOnlyRowLeft() {
        Run r = new Run("NOT_NOW: a row that can't be prewritten stays ST_PUT", 2, 2, 1, 8);
        r.beginAndPut(1, 0, 5, 0, 1);
        r.writeAll(2, 1, 6, 1);
        r.due(OK).prewrite(0, 0);
        r.same(CONFLICT).prewrite(0, 1);
        r.same(NOT_NOW).stamp(0);
        r.due(OK).abandon(0);
    }

    private static void oneRowIsEnough() {
        Run r = new Run("one row of eight is put", 2, 8, 1, 8);
        // Another client's rows are no rows of this one.
        r.beginAndPut(1, 1, 5, 0, 1, 2, 3, 4, 5, 6, 7);
        r.beginAndPrewrite(2, 0, 5, 7);
        r.turns(3, "phase 0: 2 > 3", "stamp 0: -1 > 3").stamp(0);
        r.same(NOT_NOW).stamp(1);
    }

    private static void leaseMakesNoDifference() {
        Run r = new Run("lease left doesn't change", 2, 2, 2, 8);
        r.beginAndPrewrite(1, 0, 5, 0);
        r.due(OK).tick(1);
        r.beginAndPrewrite(2, 1, 5, 1);
        r.due(OK).tick(1);
        r.turns(3, "phase 0: 2 > 3", "stamp 0: -1 > 3").stamp(0);
        r.turns(4, "phase 1: 2 > 3", "stamp 1: -1 > 4").stamp(1);
        r.due(0).leaseLeft(1);
        r.due(1).leaseLeft(2);
    }

    private static void rolledBackMakesNoDifference() {
        Run r = new Run("Whether the own transaction has been rolled back makes no difference", 2, 3, 1, 8);
        r.beginAndPut(1, 0, 5, 0, 1);
        r.due(OK).prewrite(0, 0);
        r.due(OK).tick(1);
        r.beginAndPrewrite(2, 1, 6, 0);
        r.same(NOT_NOW).stamp(0);
        r.due(OK).prewrite(0, 1);
        r.turns(3, "phase 0: 2 > 3", "stamp 0: -1 > 3").stamp(0);
        r.same(NOT_NOW).stamp(0);
        r.due(ABSENT).fate(1);
        r.due(4).stamp(1);
    }

    private static void nothingElse() {
        Run r = new Run("Fate, lease left, holds, stages, values, primary and versions don't change", 2, 4, 9, 8);
        r.writeAll(1, 0, 4, 0);
        r.beginAndPrewrite(3, 0, 5, 2, 0, 1);
        r.beginAndPrewrite(4, 1, 6, 3);
        r.due(OK).tick(3);
        r.turns(5, "phase 0: 2 > 3", "stamp 0: -1 > 5").stamp(0);
        r.due(PENDING).fate(3);
        r.due(6).leaseLeft(3);
        r.due(2).primary(0);
        r.due(4).peek(0, 5);
    }

    private static void theLastStamp() {
        Run r = new Run("the last timestamp drawn may be a stamp", 1, 2, 1, 8);
        r.passBegins(1, 7, 0);
        r.beginAndPrewrite(8, 0, 5, 0);
        r.due(9).stamp(0);
        r.due(OK).commit(0, 0);
        r.due(9).fate(8);
        r.same(FULL).begin(0);
    }

    private static void refusalDrawsNothing() {
        Run r = new Run("A refusal draws nothing", 2, 2, 1, 8);
        r.due(BAD).stamp(2);
        r.due(NO_TXN).stamp(0);
        r.beginAndPut(1, 0, 5, 0, 1);
        r.due(NOT_NOW).stamp(0);
        r.due(OK).prewrite(0, 0);
        r.due(NOT_NOW).stamp(0);
        r.due(OK).prewrite(0, 1);
        r.due(2).stamp(0);
        r.due(NOT_NOW).stamp(0);
        r.due(3).begin(1);
    }
}
