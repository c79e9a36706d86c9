/** The edges that promise 4 (prewrite) names; each run is named after the words or the case that it tests. */
final class Edge04Test extends Names {
    public static void main(String[] args) {
        clientOrRowOutOfRange();
        eachConditionBeforeThoseBehindIt();
        notNowBeforeNotPut();
        rowNotPut();
        already();
        leaseLeftOneBesideZero();
        whateverItsStartTimestamp();
        lockedBeforeConflict();
        rollBackStaysWhateverIsAnswered();
        otherHoldersStay();
        versionAtTheNeighboursOfTheStart();
        farVersions();
        conflictLeavesTheOwnAlone();
        firstRowPrewritten();
        laterRowKeepsTheLease();
        spentLeaseOfItsOwn();
        rolledBackHoldsNothing();
        sameStepsWhenRolledBack();
        clockAndVersions();
        Run.end();
    }

    private static void clientOrRowOutOfRange() {
        Run r = new Run("BAD: client or row out of range", 2, 3, 2, 8);
        r.beginAndPut(1, 0, 5, 0, 1, 2);
        r.beginAndPrewrite(2, 1, 6, 0);
        r.due(OK).tick(2);
        for (int client : new int[] {LEAST, -1, 2, 8, MOST}) {
            r.same(BAD).prewrite(client, 0);
        }
        for (int row : new int[] {LEAST, -1, 3, 8, MOST}) {
            r.same(BAD).prewrite(0, row);
            r.same(BAD).prewrite(1, row);
        }
        r.due(OK).prewrite(0, 2);
    }

    /** On the way of row 0 stand a version too new and a holder without lease left. */
    private static void eachConditionBeforeThoseBehindIt() {
        Run r = new Run("the first that applies gives the answer", 3, 3, 2, 16);
        r.beginAndPut(1, 0, 5, 1);
        r.writeAll(2, 1, 6, 0);
        r.beginAndPrewrite(4, 1, 7, 0);
        r.due(OK).tick(2);
        r.same(BAD).prewrite(2, 3);
        r.same(NO_TXN).prewrite(2, 0);
        r.same(NOT_PUT).prewrite(0, 0);
        r.same(ALREADY).prewrite(1, 0);
        r.due(OK).prewrite(0, 1);
        r.same(NOT_PUT).prewrite(0, 0);
        r.due(5).stamp(0);
        r.same(NOT_NOW).prewrite(0, 0);
        r.same(NOT_NOW).prewrite(0, 1);
        r.due(4).holder(0);
    }

    private static void notNowBeforeNotPut() {
        Run r = new Run("NOT_NOW: the phase is PH_STAMPED or PH_COMMITTED", 1, 3, 2, 8);
        r.beginAndPrewrite(1, 0, 5, 0, 1);
        r.due(2).stamp(0);
        for (int row = 0; row < 3; row++) {
            r.same(NOT_NOW).prewrite(0, row);
        }
        r.due(OK).commit(0, 0);
        for (int row = 0; row < 3; row++) {
            r.same(NOT_NOW).prewrite(0, row);
        }
        r.due(OK).commit(0, 1);
        r.same(NO_TXN).prewrite(0, 0);
    }

    private static void rowNotPut() {
        Run r = new Run("NOT_PUT: the row's stage is ST_NONE", 2, 3, 2, 8);
        r.due(1).begin(0);
        for (int row = 0; row < 3; row++) {
            r.same(NOT_PUT).prewrite(0, row);
        }
        r.due(OK).put(0, 1, -1);
        r.same(NOT_PUT).prewrite(0, 0);
        r.same(NOT_PUT).prewrite(0, 2);
        r.beginAndPrewrite(2, 1, 6, 2);
        r.same(NOT_PUT).prewrite(0, 2);
        r.due(OK).prewrite(0, 1);
        r.same(NOT_PUT).prewrite(0, 2);
        // A put of the transaction before doesn't count.
        r.due(OK).crash(0);
        r.due(3).begin(0);
        r.same(NOT_PUT).prewrite(0, 1);
    }

    private static void already() {
        Run r = new Run("ALREADY: the row's stage is ST_PREWRITTEN", 2, 3, 1, 8);
        r.beginAndPut(1, 0, 5, 0, 1);
        r.due(OK).prewrite(0, 0);
        r.same(ALREADY).prewrite(0, 0);
        r.due(OK).tick(1);
        r.same(ALREADY).prewrite(0, 0);
        // Rolled back, and the row another's: with lease left and without.
        r.beginAndPrewrite(2, 1, 6, 0);
        r.same(ALREADY).prewrite(0, 0);
        r.due(OK).tick(1);
        r.same(ALREADY).prewrite(0, 0);
        r.due(2).holder(0);
        // Or even with a version newer than the start.
        r.due(3).stamp(1);
        r.due(OK).commit(1, 0);
        r.same(ALREADY).prewrite(0, 0);
    }

    private static void leaseLeftOneBesideZero() {
        for (int lease : new int[] {1, 2, 100}) {
            Run r = new Run("with lease left above 0 LOCKED; with lease left 0 rolled back", 2, 3, lease, 8);
            r.beginAndPrewrite(1, 0, 5, 0, 2);
            r.beginAndPut(2, 1, 6, 0);
            r.same(LOCKED).prewrite(1, 0);
            if (lease > 1) {
                r.due(OK).tick(lease - 1);
            }
            r.due(1).leaseLeft(1);
            r.same(LOCKED).prewrite(1, 0);
            r.due(OK).tick(1);
            r.due(0).leaseLeft(1);
            r.turns(OK, "phase 1: 1 > 2", "primary 1: -1 > 0", "stage 1.0: 1 > 2", "holder 0: 1 > 2",
                    "holder 2: 1 > -1", "lease 1: 0 > -1", "fate 1: 0 > -1",
                    "lease 2: -1 > " + lease, "fate 2: -1 > 0").prewrite(1, 0);
        }
    }

    private static void whateverItsStartTimestamp() {
        for (int client : new int[] {0, 2}) {
            Run r = new Run("holds the row, whatever its start timestamp; client " + client, 3, 2, 2, 8);
            r.beginAndPut(1, 0, 5, 0);
            r.beginAndPrewrite(2, 1, 6, 0);
            r.beginAndPut(3, 2, 7, 0);
            int own = client + 1;
            r.same(LOCKED).prewrite(client, 0);
            r.due(OK).tick(1);
            r.same(LOCKED).prewrite(client, 0);
            r.due(OK).tick(1);
            r.turns(OK, "phase " + client + ": 1 > 2", "primary " + client + ": -1 > 0",
                    "stage " + client + ".0: 1 > 2", "holder 0: 2 > " + own, "lease 2: 0 > -1", "fate 2: 0 > -1",
                    "lease " + own + ": -1 > 2", "fate " + own + ": -1 > 0").prewrite(client, 0);
        }
    }

    private static void lockedBeforeConflict() {
        Run r = new Run("LOCKED comes before CONFLICT", 3, 2, 2, 8);
        r.beginAndPut(1, 0, 5, 0);
        r.writeAll(2, 1, 6, 0);
        r.same(CONFLICT).prewrite(0, 0);
        r.beginAndPrewrite(4, 2, 7, 0);
        r.same(LOCKED).prewrite(0, 0);
        r.due(OK).abandon(2);
        r.same(CONFLICT).prewrite(0, 0);
    }

    private static void rollBackStaysWhateverIsAnswered() {
        Run r = new Run("Whatever this call then answers, that roll back stays", 3, 3, 1, 8);
        r.beginAndPut(1, 0, 5, 0, 1);
        r.writeAll(2, 1, 6, 0);
        r.beginAndPrewrite(4, 2, 7, 0, 2);
        r.due(OK).tick(1);
        r.turns(CONFLICT, "holder 0: 4 > -1", "holder 2: 4 > -1", "lease 4: 0 > -1", "fate 4: 0 > -1").prewrite(0, 0);
        r.same(CONFLICT).prewrite(0, 0);
        r.same(GONE).heartbeat(2);
        // The same once the own transaction is PENDING.
        r.due(OK).prewrite(0, 1);
        r.beginAndPrewrite(5, 1, 8, 0);
        r.due(OK).tick(1);
        r.turns(CONFLICT, "holder 0: 5 > -1", "lease 5: 0 > -1", "fate 5: 0 > -1").prewrite(0, 0);
    }

    private static void otherHoldersStay() {
        Run r = new Run("that transaction is rolled back, and no other", 4, 4, 1, 8);
        r.beginAndPrewrite(1, 0, 5, 0);
        r.beginAndPrewrite(2, 1, 6, 1);
        r.beginAndPut(3, 2, 7, 0, 2);
        r.due(OK).tick(1);
        r.turns(OK, "phase 2: 1 > 2", "primary 2: -1 > 2", "stage 2.2: 1 > 2", "holder 2: -1 > 3",
                "lease 3: -1 > 1", "fate 3: -1 > 0").prewrite(2, 2);
        r.turns(OK, "stage 2.0: 1 > 2", "holder 0: 1 > 3", "lease 1: 0 > -1", "fate 1: 0 > -1").prewrite(2, 0);
        r.due(2).holder(1);
    }

    /** No version can bear the start timestamp itself: its neighbours are the nearest. */
    private static void versionAtTheNeighboursOfTheStart() {
        Run r = new Run("CONFLICT: a version with commit timestamp above the own start timestamp", 3, 2, 2, 8);
        r.beginAndPrewrite(1, 0, 5, 0);
        r.beginAndPrewrite(2, 1, 6, 1);
        r.due(3).stamp(0);
        r.due(4).begin(2);
        r.due(5).stamp(1);
        r.due(OK).commit(0, 0);
        r.due(OK).commit(1, 1);
        r.due(3).versionTime(0, MOST);
        r.due(5).versionTime(1, MOST);
        r.due(OK).put(2, 0, 7);
        r.due(OK).put(2, 1, 7);
        r.same(CONFLICT).prewrite(2, 1);
        r.turns(OK, "phase 2: 1 > 2", "primary 2: -1 > 0", "stage 2.0: 1 > 2", "holder 0: -1 > 4",
                "lease 4: -1 > 2", "fate 4: -1 > 0").prewrite(2, 0);
        r.same(CONFLICT).prewrite(2, 1);
    }

    private static void farVersions() {
        Run r = new Run("CONFLICT: at the ends of the clock", 2, 2, 2, 32);
        r.beginAndPut(1, 0, 5, 0, 1);
        r.writeAll(2, 1, 6, 1);
        for (int start = 4; start < 62; start += 2) {
            r.writeAll(start, 1, 6, 1);
        }
        r.writeAll(62, 1, 6, 0);
        r.due(63).versionTime(0, MOST);
        r.same(CONFLICT).prewrite(0, 0);
        r.same(CONFLICT).prewrite(0, 1);
        r.same(FULL).begin(1);
        // The latest start there is: all versions are below it.
        Run l = new Run("no CONFLICT: at the end of the clock", 1, 2, 2, 32);
        for (int start = 1; start < 63; start += 2) {
            l.writeAll(start, 0, 6, 0);
        }
        l.beginAndPrewrite(63, 0, 7, 0);
        l.due(63).holder(0);
    }

    private static void conflictLeavesTheOwnAlone() {
        Run r = new Run("The own transaction and client are unchanged", 2, 3, 3, 8);
        r.beginAndPut(1, 0, 5, 0, 1);
        r.writeAll(2, 1, -1, 0);
        r.same(CONFLICT).prewrite(0, 0);
        r.due(PH_BUFFERING).phase(0);
        r.due(OK).put(0, 2, 8);
        r.due(OK).prewrite(0, 1);
        r.due(OK).tick(1);
        r.same(CONFLICT).prewrite(0, 0);
        r.due(2).leaseLeft(1);
        r.due(OK).tick(2);
        r.same(CONFLICT).prewrite(0, 0);
        r.due(1).holder(1);
        r.same(NOT_NOW).stamp(0);
    }

    private static void firstRowPrewritten() {
        for (int row = 0; row < 8; row++) {
            Run r = new Run("In phase PH_BUFFERING: the row becomes the primary", 1, 8, 100, 8);
            r.beginAndPut(1, 0, 5, 0, 1, 2, 3, 4, 5, 6, 7);
            r.due(OK).tick(50);
            r.turns(OK, "phase 0: 1 > 2", "primary 0: -1 > " + row, "stage 0." + row + ": 1 > 2",
                    "holder " + row + ": -1 > 1", "lease 1: -1 > 100", "fate 1: -1 > 0").prewrite(0, row);
        }
    }

    private static void laterRowKeepsTheLease() {
        Run r = new Run("it holds this row too, and its lease left is unchanged", 1, 4, 5, 8);
        r.beginAndPut(1, 0, 5, 0, 1, 2, 3);
        r.due(OK).prewrite(0, 3);
        r.turns(OK, "stage 0.0: 1 > 2", "holder 0: -1 > 1").prewrite(0, 0);
        r.due(OK).tick(4);
        r.turns(OK, "stage 0.1: 1 > 2", "holder 1: -1 > 1").prewrite(0, 1);
        r.due(1).leaseLeft(1);
        r.due(3).primary(0);
    }

    private static void spentLeaseOfItsOwn() {
        Run r = new Run("its lease left is unchanged, also 0", 1, 2, 1, 8);
        r.beginAndPut(1, 0, 5, 0, 1);
        r.due(OK).prewrite(0, 0);
        r.due(OK).tick(MOST);
        r.turns(OK, "stage 0.1: 1 > 2", "holder 1: -1 > 1").prewrite(0, 1);
        r.due(0).leaseLeft(1);
        r.due(PENDING).fate(1);
    }

    private static void rolledBackHoldsNothing() {
        Run r = new Run("If it has been rolled back, it holds nothing, and the answer is OK all the same", 3, 4, 1, 8);
        r.beginAndPut(1, 0, 5, 0, 1, 2);
        r.due(OK).prewrite(0, 2);
        r.due(OK).tick(1);
        r.beginAndPrewrite(2, 1, 6, 2, 3);
        r.turns(OK, "stage 0.0: 1 > 2").prewrite(0, 0);
        r.turns(OK, "stage 0.1: 1 > 2").prewrite(0, 1);
        r.same(ALREADY).prewrite(0, 0);
        r.due(3).begin(2);
        r.same(ABSENT).read(2, 0);
        r.due(OK).put(2, 0, 7);
        r.due(OK).prewrite(2, 0);
        r.due(3).holder(0);
    }

    private static void sameStepsWhenRolledBack() {
        Run r = new Run("Steps 6 and 7 are the same whether PENDING or rolled back", 4, 4, 2, 16);
        r.beginAndPut(1, 0, 5, 0, 1, 2, 3);
        r.due(OK).prewrite(0, 0);
        r.due(OK).tick(2);
        r.due(2).begin(1);
        r.due(ABSENT).read(1, 0);
        r.beginAndPrewrite(3, 2, 6, 1, 2);
        r.same(LOCKED).prewrite(0, 1);
        r.due(OK).tick(1);
        r.same(LOCKED).prewrite(0, 1);
        r.due(OK).tick(1);
        r.turns(OK, "stage 0.1: 1 > 2", "holder 1: 3 > -1", "holder 2: 3 > -1",
                "lease 3: 0 > -1", "fate 3: 0 > -1").prewrite(0, 1);
        r.writeAll(4, 3, 7, 3);
        r.same(CONFLICT).prewrite(0, 3);
        r.beginAndPrewrite(6, 3, 8, 3);
        r.same(LOCKED).prewrite(0, 3);
        r.due(OK).tick(2);
        r.turns(CONFLICT, "holder 3: 6 > -1", "lease 6: 0 > -1", "fate 6: 0 > -1").prewrite(0, 3);
    }

    private static void clockAndVersions() {
        Run r = new Run("The clock and the versions don't change", 3, 3, 1, 8);
        r.beginAndPut(1, 0, 5, 0, 1);
        r.beginAndPrewrite(2, 1, 6, 0);
        r.due(LOCKED).prewrite(0, 0);
        r.due(OK).tick(1);
        r.due(OK).prewrite(0, 0);
        r.due(ALREADY).prewrite(0, 0);
        r.due(OK).prewrite(0, 1);
        r.due(NOT_PUT).prewrite(0, 2);
        r.due(3).begin(2);
        r.due(ABSENT).versionTime(0, MOST);
    }
}
