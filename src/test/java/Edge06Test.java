/** The edges that promise 6 (commit) names; each run is named after the words or the case that it tests. */
final class Edge06Test extends Names {
    public static void main(String[] args) {
        clientOrRowOutOfRange();
        eachConditionBeforeThoseBehindIt();
        rowNotPut();
        rowIsNotThePrimary();
        rolledBackAndNotThePrimary();
        goneMakesIdle();
        goneTouchesNobody();
        leaseLeftZeroOrMore();
        everyRowAtThatMoment();
        alreadyCommitted();
        versionsFatesAndHoldsStay();
        everyRowCommitted();
        oneRowOnly();
        stampBelowOthers();
        clockStays();
        Run.end();
    }

    private static void clientOrRowOutOfRange() {
        Run r = new Run("BAD: client or row out of range", 2, 3, 1, 8);
        r.beginAndPrewrite(1, 1, 5, 0, 2);
        r.due(2).stamp(1);
        for (int round = 0; round < 2; round++) {
            for (int client : new int[] {LEAST, -1, 2, 8, MOST}) {
                r.same(BAD).commit(client, 0);
                r.same(BAD).commit(client, 2);
            }
            for (int row : new int[] {LEAST, -1, 3, 8, MOST}) {
                r.same(BAD).commit(0, row);
                r.same(BAD).commit(1, row);
            }
            r.due(OK).commit(1, round * 2);
        }
        r.due(PH_IDLE).phase(1);
    }

    private static void eachConditionBeforeThoseBehindIt() {
        Run r = new Run("the first that applies gives the answer", 1, 3, 1, 8);
        r.same(BAD).commit(0, 3);
        r.same(NO_TXN).commit(0, 0);
        r.due(1).begin(0);
        r.same(BAD).commit(0, 3);
        r.same(NOT_NOW).commit(0, 0);
        r.due(OK).put(0, 0, 5);
        r.due(OK).put(0, 1, 5);
        r.same(NOT_NOW).commit(0, 0);
        r.same(NOT_NOW).commit(0, 2);
        r.due(OK).prewrite(0, 0);
        r.same(NOT_NOW).commit(0, 0);
        r.same(NOT_NOW).commit(0, 1);
        r.same(NOT_NOW).commit(0, 2);
        r.due(OK).prewrite(0, 1);
        r.same(NOT_NOW).commit(0, 0);
        r.due(2).stamp(0);
        r.same(NOT_PUT).commit(0, 2);
        r.same(NOT_NOW).commit(0, 1);
        r.due(OK).commit(0, 0);
    }

    private static void rowNotPut() {
        Run r = new Run("NOT_PUT: the row's stage is ST_NONE", 2, 4, 1, 8);
        r.beginAndPut(1, 1, 5, 2);
        r.beginAndPrewrite(2, 0, 5, 0, 1);
        r.due(3).stamp(0);
        r.same(NOT_PUT).commit(0, 2);
        r.same(NOT_PUT).commit(0, 3);
        r.due(OK).commit(0, 0);
        r.same(NOT_PUT).commit(0, 2);
        r.same(NOT_PUT).commit(0, 3);
    }

    private static void rowIsNotThePrimary() {
        for (int primary = 0; primary < 8; primary++) {
            Run r = new Run("In phase PH_STAMPED: if the row isn't the primary, NOT_NOW", 1, 8, 1, 8);
            r.beginAndPut(1, 0, 5, 0, 1, 2, 3, 4, 5, 6, 7);
            r.due(OK).prewrite(0, primary);
            for (int row = 0; row < 8; row++) {
                r.due(row == primary ? ALREADY : OK).prewrite(0, row);
            }
            r.due(2).stamp(0);
            for (int row = 0; row < 8; row++) {
                if (row != primary) {
                    r.same(NOT_NOW).commit(0, row);
                }
            }
            r.due(OK).commit(0, primary);
            r.due(2).fate(1);
        }
    }

    private static void rolledBackAndNotThePrimary() {
        Run r = new Run("NOT_NOW (also when the own transaction has been rolled back)", 2, 4, 1, 8);
        r.beginAndPrewrite(1, 0, 5, 1, 0, 2);
        r.due(2).stamp(0);
        r.due(OK).tick(1);
        r.due(3).begin(1);
        r.due(ABSENT).read(1, 2);
        r.same(NOT_NOW).commit(0, 0);
        r.same(NOT_NOW).commit(0, 2);
        r.same(NOT_PUT).commit(0, 3);
        r.due(GONE).commit(0, 1);
    }

    private static void goneMakesIdle() {
        Run r = new Run("GONE, and the client becomes idle", 2, 3, 1, 8);
        r.beginAndPrewrite(1, 0, 5, 0, 2);
        r.due(2).stamp(0);
        r.due(OK).tick(1);
        r.due(3).begin(1);
        r.due(ABSENT).read(1, 0);
        r.turns(GONE, "phase 0: 3 > 0", "start 0: 1 > -1", "stamp 0: 2 > -1", "primary 0: 0 > -1",
                "stage 0.0: 2 > 0", "value 0.0: 5 > -7", "stage 0.2: 2 > 0", "value 0.2: 5 > -7").commit(0, 0);
        r.same(NO_TXN).commit(0, 0);
        r.same(NO_TXN).commit(0, 2);
        r.due(ABSENT).fate(1);
        r.due(ABSENT).versionTime(0, MOST);
    }

    private static void goneTouchesNobody() {
        Run r = new Run("GONE: the holds of the next one stay", 3, 2, 1, 8);
        r.beginAndPrewrite(1, 0, 5, 0, 1);
        r.due(2).stamp(0);
        r.due(OK).tick(1);
        r.beginAndPrewrite(3, 1, 6, 0, 1);
        r.turns(GONE, "phase 0: 3 > 0", "start 0: 1 > -1", "stamp 0: 2 > -1", "primary 0: 0 > -1",
                "stage 0.0: 2 > 0", "value 0.0: 5 > -7", "stage 0.1: 2 > 0", "value 0.1: 5 > -7").commit(0, 0);
        r.due(3).holder(0);
        r.due(3).holder(1);
    }

    private static void leaseLeftZeroOrMore() {
        for (int ticks = 0; ticks <= 3; ticks++) {
            Run r = new Run("else (PENDING, lease left 0 or more) COMMITTED, ticks " + ticks, 1, 2, 2, 8);
            r.beginAndPrewrite(1, 0, 5, 1);
            r.due(2).stamp(0);
            if (ticks > 0) {
                r.due(OK).tick(ticks);
            }
            int left = Math.max(0, 2 - ticks);
            r.turns(OK, "phase 0: 3 > 0", "start 0: 1 > -1", "stamp 0: 2 > -1", "primary 0: 1 > -1",
                    "stage 0.1: 2 > 0", "value 0.1: 5 > -7", "holder 1: 1 > -1", "version 1@2: none > 5",
                    "lease 1: " + left + " > -1", "fate 1: 0 > 2").commit(0, 1);
        }
    }

    private static void everyRowAtThatMoment() {
        Run r = new Run("At this moment every row gets its version, and all its holds end", 2, 4, 3, 8);
        r.due(1).begin(0);
        r.due(OK).put(0, 0, -1);
        r.due(OK).put(0, 1, 0);
        r.due(OK).put(0, 3, 9999);
        r.due(OK).prewrite(0, 3);
        r.due(OK).prewrite(0, 0);
        r.due(OK).prewrite(0, 1);
        r.due(2).stamp(0);
        r.turns(OK, "phase 0: 3 > 4", "stage 0.3: 2 > 3", "holder 0: 1 > -1", "holder 1: 1 > -1",
                "holder 3: 1 > -1", "version 0@2: none > -1", "version 1@2: none > 0", "version 3@2: none > 9999",
                "lease 1: 3 > -1", "fate 1: 0 > 2").commit(0, 3);
        // Readers and writers meet no hold of it any more.
        r.due(3).begin(1);
        r.same(0).read(1, 1);
        r.same(ABSENT).read(1, 0);
        r.due(OK).put(1, 1, 7);
        r.due(OK).prewrite(1, 1);
    }

    private static void alreadyCommitted() {
        Run r = new Run("ALREADY if the row's stage is ST_COMMITTED", 1, 3, 3, 8);
        r.beginAndPrewrite(1, 0, 5, 2, 0, 1);
        r.due(2).stamp(0);
        r.due(OK).commit(0, 2);
        r.same(ALREADY).commit(0, 2);
        r.turns(OK, "stage 0.0: 2 > 3").commit(0, 0);
        r.same(ALREADY).commit(0, 0);
        r.same(ALREADY).commit(0, 2);
        r.due(OK).commit(0, 1);
        r.same(NO_TXN).commit(0, 0);
    }

    private static void versionsFatesAndHoldsStay() {
        Run r = new Run("Versions, fates and holds don't change here", 3, 3, 2, 16);
        r.beginAndPrewrite(1, 0, 5, 0, 1, 2);
        r.due(2).stamp(0);
        r.due(OK).commit(0, 0);
        r.writeAll(3, 1, 6, 1);
        r.beginAndPrewrite(5, 1, 7, 1, 2);
        r.due(OK).tick(2);
        r.turns(OK, "stage 0.1: 2 > 3").commit(0, 1);
        r.turns(OK, "phase 0: 4 > 0", "start 0: 1 > -1", "stamp 0: 2 > -1", "primary 0: 0 > -1",
                "stage 0.0: 3 > 0", "value 0.0: 5 > -7", "stage 0.1: 3 > 0", "value 0.1: 5 > -7",
                "stage 0.2: 2 > 0", "value 0.2: 5 > -7").commit(0, 2);
        r.due(5).holder(2);
        r.due(6).peek(1, MOST);
    }

    /** Eight rows: the client is not idle before the last one, whichever that is. */
    private static void everyRowCommitted() {
        for (int last = 0; last < 8; last++) {
            Run r = new Run("if every row's stage is ST_NONE or ST_COMMITTED, the client becomes idle", 1, 8, 1, 8);
            int primary = (last + 5) % 8;
            r.beginAndPut(1, 0, 5, 0, 1, 2, 3, 4, 5, 6, 7);
            r.due(OK).prewrite(0, primary);
            for (int row = 0; row < 8; row++) {
                r.due(row == primary ? ALREADY : OK).prewrite(0, row);
            }
            r.due(2).stamp(0);
            r.due(OK).commit(0, primary);
            for (int row = 0; row < 8; row++) {
                if (row != primary && row != last) {
                    r.turns(OK, "stage 0." + row + ": 2 > 3").commit(0, row);
                }
            }
            r.due(PH_COMMITTED).phase(0);
            r.due(OK).commit(0, last);
            r.due(PH_IDLE).phase(0);
        }
    }

    private static void oneRowOnly() {
        for (int row = 0; row < 8; row++) {
            Run r = new Run("a transaction with only one row put makes its client idle at the commit", 2, 8, 1, 8);
            r.beginAndPut(1, 1, 6, 0, 1, 2, 3, 4, 5, 6, 7);
            r.beginAndPrewrite(2, 0, 5, row);
            r.due(3).stamp(0);
            r.turns(OK, "phase 0: 3 > 0", "start 0: 2 > -1", "stamp 0: 3 > -1", "primary 0: " + row + " > -1",
                    "stage 0." + row + ": 2 > 0", "value 0." + row + ": 5 > -7", "holder " + row + ": 2 > -1",
                    "version " + row + "@3: none > 5", "lease 2: 1 > -1", "fate 2: 0 > 3").commit(0, row);
        }
    }

    private static void stampBelowOthers() {
        Run r = new Run("COMMITTED at its stamp, also when others have drawn since", 3, 3, 1, 8);
        r.beginAndPrewrite(1, 0, 5, 0);
        r.due(2).stamp(0);
        r.writeAll(3, 1, 6, 1);
        r.due(5).begin(2);
        r.due(LOCKED).read(2, 0);
        r.due(OK).commit(0, 0);
        r.due(2).fate(1);
        r.due(2).versionTime(0, MOST);
        r.same(5).read(2, 0);
    }

    private static void clockStays() {
        Run r = new Run("The clock doesn't change", 2, 2, 1, 8);
        r.beginAndPrewrite(1, 0, 5, 0, 1);
        r.due(2).stamp(0);
        r.due(NOT_NOW).commit(0, 1);
        r.due(OK).commit(0, 0);
        r.due(ALREADY).commit(0, 0);
        r.due(OK).commit(0, 1);
        r.due(NO_TXN).commit(0, 1);
        r.due(3).begin(1);
    }
}
