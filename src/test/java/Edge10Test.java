/** The edges that promise 10 (tick) names; each run is named after the words or the case that it tests. */
final class Edge10Test extends Names {
    public static void main(String[] args) {
        belowOne();
        for (int lease : new int[] {1, 2, 3, 50, 99, 100}) {
            everyNumber(lease);
            oneByOne(lease);
        }
        everyPendingTransaction();
        notPending();
        onNothing();
        rollsNobodyBack();
        latestStart();
        clockStays();
        Run.end();
    }

    private static void belowOne() {
        Run r = new Run("BAD: n below 1", 2, 2, 3, 8);
        for (int n : new int[] {0, -1, -2, -100, LEAST + 1, LEAST}) {
            r.same(BAD).tick(n);
        }
        r.beginAndPrewrite(1, 0, 5, 0);
        for (int n : new int[] {0, -1, -2, -3, -100, LEAST + 1, LEAST}) {
            r.same(BAD).tick(n);
        }
        r.turns(OK, "lease 1: 3 > 2").tick(1);
        r.turns(OK, "lease 1: 2 > 0").tick(2);
        for (int n : new int[] {0, -1, LEAST}) {
            r.same(BAD).tick(n);
        }
    }

    private static void everyNumber(int lease) {
        int[] numbers = {1, 2, lease - 1, lease, lease + 1, 255, 256, 65535, 65536, MOST - lease, MOST - 1, MOST};
        for (int n : numbers) {
            if (n < 1) {
                continue;
            }
            Run r = new Run("l - n, or 0 if n is l or more, for every n up to the greatest int", 2, 2, lease, 8);
            r.beginAndPrewrite(1, 0, 5, 0);
            int left = n >= lease ? 0 : lease - n;
            r.turns(OK, "lease 1: " + lease + " > " + left).tick(n);
            int then = n >= left ? 0 : left - n;
            if (then == left) {
                r.same(OK).tick(n);
            } else {
                r.turns(OK, "lease 1: " + left + " > " + then).tick(n);
            }
            r.due(OK).tick(MOST);
            r.same(OK).tick(MOST);
            r.due(0).leaseLeft(1);
        }
    }

    private static void oneByOne(int lease) {
        Run r = new Run("every lease left from the full lease to 0", 1, 2, lease, 8);
        r.beginAndPrewrite(1, 0, 5, 0);
        for (int left = lease; left > 0; left--) {
            r.turns(OK, "lease 1: " + left + " > " + (left - 1)).tick(1);
        }
        r.same(OK).tick(1);
    }

    private static void everyPendingTransaction() {
        Run r = new Run("every PENDING transaction's lease left", 8, 8, 20, 32);
        for (int client = 0; client < 8; client++) {
            r.beginAndPrewrite(client + 1, client, 5, client);
            if (client % 2 == 1) {
                r.due(OK).crash(client);
            }
            r.due(OK).tick(1);
        }
        String[] changes = new String[8];
        for (int start = 1; start <= 8; start++) {
            int left = 20 - 9 + start;
            changes[start - 1] = "lease " + start + ": " + left + " > " + Math.max(0, left - 15);
        }
        r.turns(OK, changes).tick(15);
    }

    private static void notPending() {
        Run r = new Run("a lease left is PENDING's alone", 4, 4, 9, 16);
        r.due(1).begin(0);
        r.writeAll(2, 1, 5, 0);
        r.beginAndPrewrite(4, 1, 5, 1);
        r.due(OK).abandon(1);
        r.beginAndPrewrite(5, 1, 5, 2, 3);
        r.due(6).stamp(1);
        r.due(OK).commit(1, 2);
        r.same(OK).tick(4);
        // What has passed before the first prewrite is not taken from the lease.
        r.due(OK).put(0, 1, 6);
        r.due(OK).prewrite(0, 1);
        r.due(9).leaseLeft(1);
        r.turns(OK, "lease 1: 9 > 5").tick(4);
    }

    private static void onNothing() {
        Run r = new Run("OK, with no transaction at all", 1, 2, 1, 8);
        r.same(OK).tick(1);
        r.same(OK).tick(MOST);
        r.same(BAD).tick(0);
    }

    private static void rollsNobodyBack() {
        Run r = new Run("no transaction is rolled back by this", 3, 4, 1, 8);
        r.beginAndPrewrite(1, 0, 5, 0, 1);
        r.beginAndPrewrite(2, 1, 5, 2);
        r.due(3).stamp(1);
        r.due(4).begin(2);
        r.turns(OK, "lease 1: 1 > 0", "lease 2: 1 > 0").tick(MOST);
        for (int i = 0; i < 5; i++) {
            r.same(OK).tick(MOST);
        }
        r.due(PENDING).fate(1);
        r.due(PENDING).fate(2);
        r.due(5).stamp(0);
        r.due(OK).commit(0, 0);
        r.due(OK).commit(1, 2);
    }

    private static void latestStart() {
        Run r = new Run("every PENDING transaction, also the one that began last", 1, 2, 5, 32);
        for (int start = 1; start < 63; start += 2) {
            r.writeAll(start, 0, 5, 0);
        }
        r.beginAndPrewrite(63, 0, 5, 1);
        r.turns(OK, "lease 63: 5 > 1").tick(4);
        r.turns(OK, "lease 63: 1 > 0").tick(1);
    }

    private static void clockStays() {
        Run r = new Run("and the clock stays", 2, 2, 5, 8);
        r.due(OK).tick(7);
        r.due(1).begin(0);
        r.due(OK).tick(1);
        r.due(BAD).tick(-1);
        r.due(2).begin(1);
    }
}
