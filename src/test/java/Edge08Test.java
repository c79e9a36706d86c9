/** The edges that promise 8 (abandon) names; each run is named after the words or the case that it tests. */
final class Edge08Test extends Names {
    public static void main(String[] args) {
        clientOutOfRange();
        eachConditionBeforeThoseBehindIt();
        alreadyRolledBack();
        pendingWhateverItsLeaseLeft();
        pendingWhenStamped();
        unbornForEver();
        nobodyElse();
        stillCounted();
        clockStays();
        Run.end();
    }

    private static void clientOutOfRange() {
        Run r = new Run("BAD: client out of range", 2, 2, 1, 8);
        r.due(1).begin(0);
        r.beginAndPrewrite(2, 1, 5, 0);
        for (int client : new int[] {LEAST, -1, 2, 8, MOST}) {
            r.same(BAD).abandon(client);
        }
    }

    private static void eachConditionBeforeThoseBehindIt() {
        Run r = new Run("NO_TXN idle; NOT_NOW in PH_COMMITTED", 2, 2, 1, 8);
        r.same(NO_TXN).abandon(0);
        r.beginAndPrewrite(1, 0, 5, 0, 1);
        r.same(NO_TXN).abandon(1);
        r.due(2).stamp(0);
        r.due(OK).commit(0, 0);
        r.same(NOT_NOW).abandon(0);
        r.due(OK).tick(MOST);
        r.same(NOT_NOW).abandon(0);
        r.due(OK).commit(0, 1);
        r.same(NO_TXN).abandon(0);
        r.due(3).begin(0);
        r.due(OK).abandon(0);
        r.same(NO_TXN).abandon(0);
    }

    private static void alreadyRolledBack() {
        Run r = new Run("If the own transaction was already rolled back the answer is GONE", 3, 3, 1, 8);
        r.beginAndPut(1, 0, 5, 0, 2);
        r.due(OK).prewrite(0, 0);
        r.due(OK).tick(1);
        r.beginAndPrewrite(2, 1, 6, 0);
        r.turns(GONE, "phase 0: 2 > 0", "start 0: 1 > -1", "primary 0: 0 > -1", "stage 0.0: 2 > 0",
                "value 0.0: 5 > -7", "stage 0.2: 1 > 0", "value 0.2: 5 > -7").abandon(0);
        r.same(NO_TXN).abandon(0);
        r.due(3).stamp(1);
        r.due(OK).tick(1);
        r.due(4).begin(2);
        r.due(ABSENT).read(2, 0);
        r.turns(GONE, "phase 1: 3 > 0", "start 1: 2 > -1", "stamp 1: 3 > -1", "primary 1: 0 > -1",
                "stage 1.0: 2 > 0", "value 1.0: 6 > -7").abandon(1);
        r.due(5).begin(1);
    }

    private static void pendingWhateverItsLeaseLeft() {
        for (int ticks = 0; ticks <= 4; ticks++) {
            Run r = new Run("if the transaction was PENDING (whatever its lease left) it is rolled back", 2, 3, 3, 8);
            r.beginAndPrewrite(1, 0, 5, 0, 2);
            if (ticks > 0) {
                r.due(OK).tick(ticks);
            }
            r.turns(OK, "phase 0: 2 > 0", "start 0: 1 > -1", "primary 0: 0 > -1", "stage 0.0: 2 > 0",
                    "value 0.0: 5 > -7", "stage 0.2: 2 > 0", "value 0.2: 5 > -7", "holder 0: 1 > -1",
                    "holder 2: 1 > -1", "lease 1: " + Math.max(0, 3 - ticks) + " > -1", "fate 1: 0 > -1").abandon(0);
            r.same(NO_TXN).abandon(0);
        }
    }

    private static void pendingWhenStamped() {
        Run r = new Run("PENDING, in phase PH_STAMPED", 2, 3, 3, 8);
        r.beginAndPrewrite(1, 0, 5, 1);
        r.due(2).stamp(0);
        r.turns(OK, "phase 0: 3 > 0", "start 0: 1 > -1", "stamp 0: 2 > -1", "primary 0: 1 > -1",
                "stage 0.1: 2 > 0", "value 0.1: 5 > -7", "holder 1: 1 > -1", "lease 1: 3 > -1",
                "fate 1: 0 > -1").abandon(0);
        r.due(3).begin(1);
        r.same(ABSENT).read(1, 1);
    }

    private static void unbornForEver() {
        Run r = new Run("if it was UNBORN it stays UNBORN for ever", 2, 3, 3, 8);
        r.due(1).begin(0);
        r.turns(OK, "phase 0: 1 > 0", "start 0: 1 > -1").abandon(0);
        r.due(2).begin(0);
        r.due(OK).put(0, 1, 5);
        r.turns(OK, "phase 0: 1 > 0", "start 0: 2 > -1", "stage 0.1: 1 > 0", "value 0.1: 5 > -7").abandon(0);
        r.beginAndPrewrite(3, 0, 6, 1);
        for (int start = 1; start <= 2; start++) {
            r.due(ABSENT).fate(start);
            r.due(ABSENT).leaseLeft(start);
        }
        r.due(3).holder(1);
    }

    private static void nobodyElse() {
        Run r = new Run("other transactions and all versions don't change", 4, 4, 2, 16);
        r.writeAll(1, 0, 4, 0);
        r.beginAndPrewrite(3, 0, 5, 0);
        r.due(OK).crash(0);
        r.beginAndPrewrite(4, 1, 6, 1);
        r.due(OK).tick(2);
        r.beginAndPut(5, 2, 7, 0, 1, 2);
        r.beginAndPrewrite(6, 3, 8, 3);
        r.turns(OK, "phase 3: 2 > 0", "start 3: 6 > -1", "primary 3: 3 > -1", "stage 3.3: 2 > 0",
                "value 3.3: 8 > -7", "holder 3: 6 > -1", "lease 6: 2 > -1", "fate 6: 0 > -1").abandon(3);
        r.turns(OK, "phase 2: 1 > 0", "start 2: 5 > -1", "stage 2.0: 1 > 0", "value 2.0: 7 > -7",
                "stage 2.1: 1 > 0", "value 2.1: 7 > -7", "stage 2.2: 1 > 0", "value 2.2: 7 > -7").abandon(2);
    }

    private static void stillCounted() {
        Run r = new Run("The begin is still counted among the begins that succeeded", 1, 2, 1, 8);
        for (int start = 1; start <= 8; start++) {
            r.due(start).begin(0);
            if (start % 2 == 0) {
                r.due(OK).put(0, 0, 5);
                r.due(OK).prewrite(0, 0);
            }
            r.due(OK).abandon(0);
        }
        r.same(FULL).begin(0);
    }

    private static void clockStays() {
        Run r = new Run("The clock doesn't change", 1, 2, 1, 8);
        r.due(1).begin(0);
        r.due(OK).abandon(0);
        r.due(NO_TXN).abandon(0);
        r.beginAndPrewrite(2, 0, 5, 0);
        r.due(3).stamp(0);
        r.due(OK).abandon(0);
        r.due(4).begin(0);
    }
}
