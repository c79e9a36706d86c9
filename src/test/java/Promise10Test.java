/** Promise 10: tick. */
final class Promise10Test extends Names {
    public static void main(String[] args) {
        wrongNumbers();
        everyPendingTransaction();
        hugeNumbers();
        rollsNobodyBack();
        Run.end();
    }

    private static void wrongNumbers() {
        Run r = new Run("wrong", 1, 2, 3, 8);
        r.beginAndPrewrite(1, 0, 9, 0);
        r.same(BAD).tick(0);
        r.same(BAD).tick(-1);
        r.same(BAD).tick(Integer.MIN_VALUE);
        r.due(3).leaseLeft(1);
    }

    private static void everyPendingTransaction() {
        Run r = new Run("every", 4, 4, 10, 8);
        r.beginAndPrewrite(1, 0, 9, 0);
        r.due(OK).crash(0);
        r.due(OK).tick(4);
        r.due(6).leaseLeft(1);
        r.beginAndPrewrite(2, 1, 9, 1);
        r.due(OK).tick(1);
        r.due(5).leaseLeft(1);
        r.due(9).leaseLeft(2);
        r.due(3).begin(2);
        r.writeAll(4, 3, 9, 2);
        r.due(OK).tick(5);
        r.due(0).leaseLeft(1);
        r.due(4).leaseLeft(2);
        r.due(ABSENT).leaseLeft(3);
        r.due(ABSENT).leaseLeft(4);
        r.due(OK).tick(3);
        r.due(0).leaseLeft(1);
        r.due(1).leaseLeft(2);
        r.due(OK).tick(2);
        r.due(0).leaseLeft(2);
        // Ticks before the first prewrite take nothing from the lease.
        r.due(OK).put(2, 3, 1);
        r.due(OK).prewrite(2, 3);
        r.due(10).leaseLeft(3);
    }

    private static void hugeNumbers() {
        for (int n : new int[] {100, 101, Integer.MAX_VALUE - 1, Integer.MAX_VALUE}) {
            Run r = new Run("huge " + n, 1, 2, 100, 8);
            r.beginAndPrewrite(1, 0, 9, 0);
            r.due(OK).tick(n);
            r.due(0).leaseLeft(1);
            r.same(OK).tick(n);
            r.due(0).leaseLeft(1);
        }
    }

    private static void rollsNobodyBack() {
        Run r = new Run("nobody", 2, 2, 1, 8);
        r.writeAll(1, 1, 5, 1);
        r.beginAndPrewrite(3, 0, 9, 0);
        r.due(OK).tick(50);
        r.due(PENDING).fate(3);
        r.due(3).holder(0);
        r.due(PH_PREWRITING).phase(0);
        r.due(9).value(0, 0);
        r.due(5).peek(1, 9);
        r.due(4).begin(1);
    }
}
