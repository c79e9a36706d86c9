/** The edges that promise 2 (begin) names; each run is named after the words or the case that it tests. */
final class Edge02Test extends Names {
    public static void main(String[] args) {
        clientOutOfRange();
        clientIsNotIdle();
        rolledBackOwnerIsNotIdle();
        idleAgain();
        for (int txns = 8; txns <= 32; txns++) {
            fullAfterTheLast(txns);
        }
        whateverBecameOfThem();
        badBeforeBusyBeforeFull();
        newTransactionAlone();
        refusalDrawsNothing();
        Run.end();
    }

    private static void clientOutOfRange() {
        Run r = new Run("BAD: client out of range", 3, 2, 1, 8);
        for (int client : new int[] {LEAST, -3, -1, 3, 4, 8, MOST}) {
            r.same(BAD).begin(client);
        }
        r.due(1).begin(0);
        r.due(2).begin(2);
        r.same(BAD).begin(3);
        r.same(BAD).begin(-1);
        r.due(3).begin(1);
    }

    private static void clientIsNotIdle() {
        Run r = new Run("BUSY: the client isn't idle", 2, 2, 1, 8);
        r.due(1).begin(1);
        r.same(BUSY).begin(1);
        r.due(OK).put(1, 0, 5);
        r.due(OK).put(1, 1, 5);
        r.same(BUSY).begin(1);
        r.due(OK).prewrite(1, 0);
        r.same(BUSY).begin(1);
        r.due(OK).prewrite(1, 1);
        r.due(2).stamp(1);
        r.same(BUSY).begin(1);
        r.due(OK).commit(1, 0);
        r.same(BUSY).begin(1);
        r.turns(3, "phase 0: 0 > 1", "start 0: -1 > 3").begin(0);
    }

    private static void rolledBackOwnerIsNotIdle() {
        Run r = new Run("BUSY: also when the own transaction has been rolled back", 2, 2, 1, 8);
        r.beginAndPrewrite(1, 0, 5, 0);
        r.due(OK).tick(1);
        r.due(2).begin(1);
        r.due(ABSENT).read(1, 0);
        r.same(BUSY).begin(0);
        r.due(3).stamp(0);
        r.same(BUSY).begin(0);
        r.due(GONE).commit(0, 0);
        r.due(4).begin(0);
    }

    private static void idleAgain() {
        Run r = new Run("not BUSY: after the last commit, abandon and crash", 1, 2, 1, 8);
        r.writeAll(1, 0, 5, 0, 1);
        r.due(3).begin(0);
        r.due(OK).abandon(0);
        r.due(4).begin(0);
        r.due(OK).crash(0);
        r.due(5).begin(0);
    }

    private static void fullAfterTheLast(int txns) {
        Run r = new Run("FULL: txns begins have succeeded before", 2, 2, 1, txns);
        r.passBegins(1, txns - 1, 0);
        r.same(NO_TXN).crash(0);
        r.due(txns).begin(0);
        r.same(FULL).begin(1);
        r.same(BUSY).begin(0);
        r.due(OK).abandon(0);
        r.same(FULL).begin(0);
        r.same(FULL).begin(1);
    }

    /** Each of the eight begins comes to another end. */
    private static void whateverBecameOfThem() {
        Run r = new Run("FULL: whatever became of those transactions", 3, 4, 1, 8);
        r.due(1).begin(0);
        r.due(OK).abandon(0);
        r.due(2).begin(0);
        r.due(OK).crash(0);
        r.writeAll(3, 0, 5, 0);
        r.beginAndPrewrite(5, 0, 5, 0);
        r.due(OK).abandon(0);
        r.beginAndPrewrite(6, 0, 5, 1);
        r.due(OK).crash(0);
        r.beginAndPrewrite(7, 0, 5, 2, 3);
        r.due(8).stamp(0);
        r.due(OK).commit(0, 2);
        r.due(OK).crash(0);
        r.due(OK).tick(1);
        r.beginAndPrewrite(9, 0, 6, 1);
        r.due(OK).tick(1);
        r.due(10).begin(1);
        r.due(ABSENT).read(1, 1);
        r.same(FULL).begin(2);
        r.due(11).stamp(0);
        r.due(GONE).commit(0, 1);
        r.same(FULL).begin(0);
        r.due(OK).abandon(1);
        r.same(FULL).begin(1);
    }

    private static void badBeforeBusyBeforeFull() {
        Run r = new Run("the first that applies gives the answer", 2, 2, 1, 8);
        r.due(1).begin(0);
        r.passBegins(2, 8, 1);
        r.same(BUSY).begin(0);
        r.same(FULL).begin(1);
        for (int client : new int[] {LEAST, -1, 2, MOST}) {
            r.same(BAD).begin(client);
        }
    }

    private static void newTransactionAlone() {
        Run r = new Run("Other clients, other transactions, holds, leases and versions don't change", 4, 4, 3, 16);
        r.writeAll(1, 0, 50, 0);
        r.beginAndPrewrite(3, 0, 60, 1, 2);
        r.due(OK).tick(3);
        r.due(OK).crash(0);
        r.beginAndPrewrite(4, 1, 70, 3);
        r.due(OK).tick(1);
        r.beginAndPut(5, 2, 80, 0);
        r.turns(6, "phase 3: 0 > 1", "start 3: -1 > 6").begin(3);
        r.turns(7, "phase 0: 0 > 1", "start 0: -1 > 7").begin(0);
        r.same(NOT_PUT).prewrite(0, 1);
        r.same(NOT_NOW).stamp(0);
    }

    private static void refusalDrawsNothing() {
        Run r = new Run("A refusal draws nothing", 2, 2, 1, 8);
        r.due(BAD).begin(2);
        r.due(1).begin(0);
        r.due(BUSY).begin(0);
        r.due(BAD).begin(-1);
        r.passBegins(2, 8, 1);
        r.due(FULL).begin(1);
        r.due(FULL).begin(1);
        r.due(BUSY).begin(0);
        r.due(OK).put(0, 0, 5);
        r.due(OK).prewrite(0, 0);
        r.due(9).stamp(0);
    }
}
