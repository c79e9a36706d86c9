/** The edges that promise 14 (leaseLeft) names; each run is named after the words or the case that it tests. */
final class Edge14Test extends Names {
    private static final int[] FAR = {LEAST, LEAST + 1, -65, -64, -1, 0, 64, 65, 66, 128, 65536, 65537, MOST - 1, MOST};

    public static void main(String[] args) {
        anyInt();
        onePastTheLast();
        everyLeaseLeft();
        notPending();
        stampIsNoStart();
        crashedOwner();
        latestStart();
        Run.end();
    }

    private static void anyInt() {
        Run r = new Run("start may be any int", 1, 2, 5, 8);
        for (int start : FAR) {
            r.same(ABSENT).leaseLeft(start);
        }
        r.beginAndPrewrite(1, 0, 5, 0);
        for (int start : FAR) {
            r.same(ABSENT).leaseLeft(start);
        }
        r.same(5).leaseLeft(1);
    }

    private static void onePastTheLast() {
        Run r = new Run("ABSENT if there is no such transaction", 3, 3, 5, 8);
        r.beginAndPrewrite(1, 0, 5, 0);
        r.beginAndPrewrite(2, 1, 5, 1);
        r.same(ABSENT).leaseLeft(0);
        r.same(5).leaseLeft(1);
        r.same(5).leaseLeft(2);
        r.same(ABSENT).leaseLeft(3);
        r.beginAndPrewrite(3, 2, 5, 2);
        r.same(5).leaseLeft(3);
        r.same(ABSENT).leaseLeft(4);
    }

    private static void everyLeaseLeft() {
        for (int lease : new int[] {1, 2, 99, 100}) {
            Run r = new Run("the lease left (0..lease)", 1, 2, lease, 8);
            r.beginAndPrewrite(1, 0, 5, 0);
            for (int left = lease; left > 0; left--) {
                r.due(left).leaseLeft(1);
                r.due(OK).tick(1);
            }
            r.same(0).leaseLeft(1);
            r.due(OK).tick(MOST);
            r.same(0).leaseLeft(1);
        }
    }

    private static void notPending() {
        Run r = new Run("ABSENT if it isn't PENDING", 3, 3, 1, 16);
        r.due(1).begin(0);
        r.same(ABSENT).leaseLeft(1);
        r.due(OK).put(0, 0, 5);
        r.same(ABSENT).leaseLeft(1);
        r.due(OK).abandon(0);
        r.same(ABSENT).leaseLeft(1);
        r.beginAndPrewrite(2, 0, 5, 0);
        r.due(OK).abandon(0);
        r.same(ABSENT).leaseLeft(2);
        r.beginAndPrewrite(3, 0, 5, 0, 1);
        r.due(4).stamp(0);
        r.same(1).leaseLeft(3);
        r.due(OK).commit(0, 0);
        r.same(ABSENT).leaseLeft(3);
        r.beginAndPrewrite(5, 1, 5, 2);
        r.due(OK).tick(1);
        r.same(0).leaseLeft(5);
        r.due(6).begin(2);
        r.due(ABSENT).read(2, 2);
        r.same(ABSENT).leaseLeft(5);
        r.same(GONE).heartbeat(1);
        r.same(ABSENT).leaseLeft(5);
    }

    private static void stampIsNoStart() {
        Run r = new Run("with this start timestamp", 2, 2, 3, 8);
        r.beginAndPrewrite(1, 0, 5, 0);
        r.due(2).stamp(0);
        r.same(ABSENT).leaseLeft(2);
        r.same(3).leaseLeft(1);
        r.due(OK).commit(0, 0);
        r.same(ABSENT).leaseLeft(2);
    }

    private static void crashedOwner() {
        Run r = new Run("a PENDING transaction without a client", 1, 2, 3, 8);
        r.beginAndPrewrite(1, 0, 5, 0);
        r.due(OK).crash(0);
        r.same(3).leaseLeft(1);
        r.due(OK).tick(2);
        r.same(1).leaseLeft(1);
        r.due(OK).tick(2);
        r.same(0).leaseLeft(1);
    }

    private static void latestStart() {
        Run r = new Run("the greatest start timestamp", 1, 2, 7, 32);
        for (int start = 1; start < 63; start += 2) {
            r.writeAll(start, 0, 5, 0);
        }
        r.beginAndPrewrite(63, 0, 5, 0);
        r.same(7).leaseLeft(63);
        r.due(64).stamp(0);
        r.same(7).leaseLeft(63);
        r.same(ABSENT).leaseLeft(62);
        r.same(ABSENT).leaseLeft(64);
        r.same(ABSENT).leaseLeft(65);
    }
}
