/** Promise 14: leaseLeft. */
final class Promise14Test extends Names {
    public static void main(String[] args) {
        Run r = new Run("leaseLeft", 3, 3, 4, 8);
        everyOtherStart(r, 0);
        r.due(1).begin(0);
        r.same(ABSENT).leaseLeft(1);
        r.due(OK).put(0, 0, 5);
        r.due(OK).prewrite(0, 0);
        r.same(4).leaseLeft(1);
        everyOtherStart(r, 1);
        r.due(OK).tick(3);
        r.same(1).leaseLeft(1);
        r.due(OK).tick(3);
        r.same(0).leaseLeft(1);
        r.due(OK).heartbeat(0);
        r.same(4).leaseLeft(1);
        r.due(2).stamp(0);
        r.same(4).leaseLeft(1);
        // A stamp is no start timestamp.
        r.same(ABSENT).leaseLeft(2);
        r.due(OK).commit(0, 0);
        r.same(ABSENT).leaseLeft(1);
        r.beginAndPrewrite(3, 0, 6, 1);
        r.due(OK).crash(0);
        r.due(OK).tick(1);
        r.same(3).leaseLeft(3);
        everyOtherStart(r, 3);
        r.due(OK).tick(3);
        r.due(4).begin(1);
        r.due(ABSENT).read(1, 1);
        r.same(ABSENT).leaseLeft(3);
        r.beginAndPrewrite(5, 2, 7, 1);
        r.due(OK).abandon(2);
        r.same(ABSENT).leaseLeft(5);
        Run.end();
    }

    private static void everyOtherStart(Run r, int but) {
        for (int start = -2; start <= 70; start++) {
            if (start != but || but == 0) {
                r.same(ABSENT).leaseLeft(start);
            }
        }
        r.same(ABSENT).leaseLeft(Integer.MIN_VALUE);
        r.same(ABSENT).leaseLeft(Integer.MAX_VALUE);
    }
}
