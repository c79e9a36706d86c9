/** The edges that promise 7 (heartbeat) names; each run is named after the words or the case that it tests. */
final class Edge07Test extends Names {
    public static void main(String[] args) {
        clientOutOfRange();
        eachConditionBeforeThoseBehindIt();
        goneChangesNothing();
        fullLeaseFromEveryLeaseLeft();
        evenWhenStamped();
        nothingElse();
        afterACrash();
        clockStays();
        Run.end();
    }

    private static void clientOutOfRange() {
        Run r = new Run("BAD: client out of range", 2, 2, 3, 8);
        r.beginAndPrewrite(1, 0, 5, 0);
        r.beginAndPrewrite(2, 1, 5, 1);
        r.due(OK).tick(1);
        for (int client : new int[] {LEAST, -1, 2, 8, MOST}) {
            r.same(BAD).heartbeat(client);
        }
    }

    private static void eachConditionBeforeThoseBehindIt() {
        Run r = new Run("NO_TXN idle; NOT_NOW in PH_BUFFERING or PH_COMMITTED", 2, 3, 3, 8);
        r.same(NO_TXN).heartbeat(0);
        r.beginAndPut(1, 0, 5, 0, 1);
        r.same(NOT_NOW).heartbeat(0);
        r.same(NO_TXN).heartbeat(1);
        r.due(OK).prewrite(0, 0);
        r.same(OK).heartbeat(0);
        r.due(OK).prewrite(0, 1);
        r.due(2).stamp(0);
        r.same(OK).heartbeat(0);
        r.due(OK).tick(1);
        r.due(OK).commit(0, 0);
        r.same(NOT_NOW).heartbeat(0);
        r.due(OK).commit(0, 1);
        r.same(NO_TXN).heartbeat(0);
    }

    private static void goneChangesNothing() {
        Run r = new Run("GONE: Nothing changes; in particular the client does not become idle", 3, 3, 1, 8);
        r.beginAndPut(1, 0, 5, 0, 1);
        r.due(OK).prewrite(0, 0);
        r.due(OK).tick(1);
        // Spent, but not rolled back: not yet gone.
        r.turns(OK, "lease 1: 0 > 1").heartbeat(0);
        r.due(OK).tick(1);
        r.beginAndPrewrite(2, 1, 6, 0);
        r.same(GONE).heartbeat(0);
        r.same(GONE).heartbeat(0);
        r.due(PH_PREWRITING).phase(0);
        r.due(OK).prewrite(0, 1);
        r.same(GONE).heartbeat(0);
        r.due(3).stamp(0);
        r.same(GONE).heartbeat(0);
        r.due(PH_STAMPED).phase(0);
        r.due(OK).tick(1);
        r.same(GONE).heartbeat(0);
        r.due(0).leaseLeft(2);
    }

    private static void fullLeaseFromEveryLeaseLeft() {
        for (int lease : new int[] {1, 2, 3, 99, 100}) {
            for (int ticks : new int[] {1, 2, lease - 1, lease, lease + 1, MOST}) {
                if (ticks < 1) {
                    continue;
                }
                Run r = new Run("lease left becomes the full lease again, even from 0", 1, 2, lease, 8);
                r.beginAndPrewrite(1, 0, 5, 0);
                r.same(OK).heartbeat(0);
                r.due(OK).tick(ticks);
                int left = Math.max(0, lease - ticks);
                r.due(left).leaseLeft(1);
                r.turns(OK, "lease 1: " + left + " > " + lease).heartbeat(0);
                r.same(OK).heartbeat(0);
            }
        }
    }

    private static void evenWhenStamped() {
        Run r = new Run("even from 0, in phase PH_STAMPED", 2, 2, 4, 8);
        r.beginAndPrewrite(1, 0, 5, 0);
        r.due(2).stamp(0);
        r.due(OK).tick(4);
        r.turns(OK, "lease 1: 0 > 4").heartbeat(0);
        r.due(3).begin(1);
        r.same(LOCKED).read(1, 0);
    }

    private static void nothingElse() {
        Run r = new Run("the own transaction's lease left. Nothing else changes", 4, 4, 5, 8);
        r.beginAndPrewrite(1, 0, 5, 0, 1);
        r.due(OK).crash(0);
        r.beginAndPrewrite(2, 0, 6, 2);
        r.beginAndPrewrite(3, 1, 7, 3);
        r.due(4).begin(2);
        r.due(OK).tick(2);
        r.turns(OK, "lease 2: 3 > 5").heartbeat(0);
        r.turns(OK, "lease 3: 3 > 5").heartbeat(1);
        r.due(3).leaseLeft(1);
    }

    /** The client has begun afresh: what it left behind gets no lease any more. */
    private static void afterACrash() {
        Run r = new Run("the own transaction", 1, 3, 2, 8);
        r.beginAndPrewrite(1, 0, 5, 0);
        r.due(OK).crash(0);
        r.due(OK).tick(1);
        r.same(NO_TXN).heartbeat(0);
        r.beginAndPut(2, 0, 6, 1);
        r.same(NOT_NOW).heartbeat(0);
        r.due(OK).prewrite(0, 1);
        r.due(OK).tick(1);
        r.turns(OK, "lease 2: 1 > 2").heartbeat(0);
        r.due(0).leaseLeft(1);
    }

    private static void clockStays() {
        Run r = new Run("the clock stays", 2, 2, 2, 8);
        r.beginAndPrewrite(1, 0, 5, 0);
        r.due(OK).heartbeat(0);
        r.due(OK).heartbeat(0);
        r.due(2).begin(1);
        r.due(3).stamp(0);
    }
}
