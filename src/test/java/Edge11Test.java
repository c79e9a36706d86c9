/** The edges that promise 11 (read) names; each run is named after the words or the case that it tests. */
final class Edge11Test extends Names {
    public static void main(String[] args) {
        clientOrRowOutOfRange();
        idleClient();
        holderBelowTheSnapshot();
        holderJustAboveTheSnapshot();
        holderIsTheOwnTransaction();
        ownTransactionLeftBehind();
        versionsAtTheNeighboursOfTheStart();
        greatestThatIsBelow();
        noVersion();
        versionOfNoValue();
        inAnyPhaseButIdle();
        rolledBackMakesNoDifference();
        rolledBackReaderRollsBack();
        rollBackAlone();
        latestSnapshot();
        Run.end();
    }

    private static void clientOrRowOutOfRange() {
        Run r = new Run("BAD: client or row out of range", 2, 3, 1, 8);
        r.beginAndPrewrite(1, 0, 5, 0, 1, 2);
        r.due(OK).crash(0);
        r.due(OK).tick(1);
        r.due(2).begin(1);
        for (int client : new int[] {LEAST, -1, 2, 8, MOST}) {
            r.same(BAD).read(client, 0);
            r.same(BAD).read(client, 3);
        }
        for (int row : new int[] {LEAST, -1, 3, 8, MOST}) {
            r.same(BAD).read(0, row);
            r.same(BAD).read(1, row);
        }
    }

    private static void idleClient() {
        Run r = new Run("NO_TXN: the client is idle, whatever stands on the row", 2, 2, 1, 8);
        r.writeAll(1, 0, 5, 0);
        r.same(NO_TXN).read(0, 0);
        r.beginAndPrewrite(3, 0, 6, 0);
        r.same(NO_TXN).read(1, 0);
        r.due(OK).tick(1);
        r.same(NO_TXN).read(1, 0);
        r.due(OK).crash(0);
        r.same(NO_TXN).read(0, 0);
    }

    private static void holderBelowTheSnapshot() {
        for (int lease : new int[] {1, 2, 100}) {
            Run r = new Run("start timestamp below s: lease left above 0 LOCKED, lease left 0 rolled back", 2, 3, lease, 8);
            r.writeAll(1, 0, 5, 0);
            r.beginAndPrewrite(3, 0, 6, 2, 0);
            r.due(4).begin(1);
            r.same(LOCKED).read(1, 0);
            if (lease > 1) {
                r.due(OK).tick(lease - 1);
            }
            r.due(1).leaseLeft(3);
            r.same(LOCKED).read(1, 0);
            r.due(OK).tick(1);
            r.turns(5, "holder 0: 3 > -1", "holder 2: 3 > -1", "lease 3: 0 > -1", "fate 3: 0 > -1").read(1, 0);
            r.same(5).read(1, 0);
        }
        Run far = new Run("start timestamp far below s", 2, 2, 1, 32);
        far.beginAndPrewrite(1, 0, 5, 0);
        far.passBegins(2, 31, 1);
        far.due(32).begin(1);
        far.same(LOCKED).read(1, 0);
        far.due(OK).tick(1);
        far.turns(ABSENT, "holder 0: 1 > -1", "lease 1: 0 > -1", "fate 1: 0 > -1").read(1, 0);
    }

    private static void holderJustAboveTheSnapshot() {
        Run r = new Run("A holder with start timestamp above s is left alone, whatever its lease left", 2, 2, 2, 8);
        r.writeAll(1, 0, 5, 0);
        r.due(3).begin(1);
        r.beginAndPrewrite(4, 0, 6, 0);
        r.same(5).read(1, 0);
        r.due(OK).tick(1);
        r.same(5).read(1, 0);
        r.due(OK).tick(1);
        r.same(5).read(1, 0);
        r.due(4).holder(0);
        r.due(5).stamp(0);
        r.same(5).read(1, 0);
    }

    private static void holderIsTheOwnTransaction() {
        Run r = new Run("this includes the own transaction", 1, 2, 2, 8);
        r.writeAll(1, 0, 5, 0);
        r.beginAndPrewrite(3, 0, 6, 0, 1);
        for (int ticks = 0; ticks < 3; ticks++) {
            r.same(5).read(0, 0);
            r.same(ABSENT).read(0, 1);
            r.due(OK).tick(1);
        }
        r.due(0).leaseLeft(3);
        r.due(4).stamp(0);
        r.same(5).read(0, 0);
        r.due(3).holder(0);
    }

    private static void ownTransactionLeftBehind() {
        Run r = new Run("what the client itself left behind is another transaction", 1, 2, 1, 8);
        r.beginAndPrewrite(1, 0, 5, 0);
        r.due(OK).crash(0);
        r.due(2).begin(0);
        r.same(LOCKED).read(0, 0);
        r.due(OK).tick(1);
        r.turns(ABSENT, "holder 0: 1 > -1", "lease 1: 0 > -1", "fate 1: 0 > -1").read(0, 0);
    }

    /** Two commits side by side with the start: stamps 3 and 5, start 4. */
    private static void versionsAtTheNeighboursOfTheStart() {
        Run r = new Run("commit timestamp that is s or below", 3, 2, 2, 8);
        r.beginAndPrewrite(1, 0, 10, 0);
        r.beginAndPrewrite(2, 1, 20, 1);
        r.due(3).stamp(0);
        r.due(4).begin(2);
        r.due(5).stamp(1);
        r.due(OK).commit(0, 0);
        r.due(OK).commit(1, 1);
        r.same(10).read(2, 0);
        r.same(ABSENT).read(2, 1);
    }

    private static void greatestThatIsBelow() {
        Run r = new Run("the version with the greatest commit timestamp", 8, 2, 2, 16);
        for (int client = 0; client < 7; client++) {
            int start = 3 * client + 1;
            r.due(start).begin(client);
            r.writeAll(start + 1, 7, 100 + client, 1);
        }
        for (int client = 0; client < 7; client++) {
            r.same(client == 0 ? ABSENT : 99 + client).read(client, 1);
            r.same(ABSENT).read(client, 0);
        }
    }

    private static void noVersion() {
        Run r = new Run("ABSENT if there is none", 2, 2, 2, 8);
        r.due(1).begin(0);
        r.same(ABSENT).read(0, 0);
        r.same(ABSENT).read(0, 1);
        r.writeAll(2, 1, 0, 0);
        r.same(ABSENT).read(0, 0);
        r.due(4).begin(1);
        r.same(0).read(1, 0);
        r.same(ABSENT).read(1, 1);
    }

    private static void versionOfNoValue() {
        Run r = new Run("A version whose value is -1 also gives ABSENT", 2, 2, 2, 8);
        r.writeAll(1, 0, 9999, 0);
        r.writeAll(3, 0, -1, 0);
        r.due(5).begin(0);
        r.same(ABSENT).read(0, 0);
        r.writeAll(6, 1, 0, 0);
        r.same(ABSENT).read(0, 0);
        r.due(OK).crash(0);
        r.due(8).begin(0);
        r.same(0).read(0, 0);
    }

    private static void inAnyPhaseButIdle() {
        Run r = new Run("in any phase but idle. Own puts aren't seen", 1, 3, 2, 8);
        r.writeAll(1, 0, 5, 0, 1);
        r.due(3).begin(0);
        readsFive(r);
        r.due(OK).put(0, 0, 6);
        r.due(OK).put(0, 1, 7);
        readsFive(r);
        r.due(OK).prewrite(0, 1);
        readsFive(r);
        r.due(OK).prewrite(0, 0);
        readsFive(r);
        r.due(4).stamp(0);
        readsFive(r);
        r.due(OK).commit(0, 1);
        r.due(PH_COMMITTED).phase(0);
        readsFive(r);
        r.due(7).peek(1, 4);
        r.due(OK).commit(0, 0);
        r.same(NO_TXN).read(0, 0);
    }

    private static void readsFive(Run r) {
        r.same(5).read(0, 0);
        r.same(5).read(0, 1);
        r.same(ABSENT).read(0, 2);
    }

    private static void rolledBackMakesNoDifference() {
        Run r = new Run("Whether the own transaction has been rolled back makes no difference", 2, 2, 1, 8);
        r.writeAll(1, 0, 5, 0);
        r.beginAndPrewrite(3, 0, 6, 0, 1);
        r.due(OK).tick(1);
        r.beginAndPrewrite(4, 1, 7, 0);
        r.due(ABSENT).fate(3);
        r.same(5).read(0, 0);
        r.same(ABSENT).read(0, 1);
        r.due(5).stamp(0);
        r.same(5).read(0, 0);
        r.due(6).stamp(1);
        r.due(OK).commit(1, 0);
        r.same(5).read(0, 0);
    }

    private static void rolledBackReaderRollsBack() {
        Run r = new Run("rolled back: it meets holders below s as before", 3, 3, 1, 8);
        r.beginAndPut(1, 0, 5, 1);
        r.beginAndPrewrite(2, 1, 6, 0);
        r.due(OK).tick(1);
        r.due(3).begin(2);
        r.due(ABSENT).read(2, 0);
        r.due(OK).prewrite(0, 1);
        r.same(LOCKED).read(1, 1);
        r.due(OK).tick(1);
        r.turns(ABSENT, "holder 1: 1 > -1", "lease 1: 0 > -1", "fate 1: 0 > -1").read(1, 1);
    }

    private static void rollBackAlone() {
        Run r = new Run("Apart from the roll back in 3, nothing changes", 4, 4, 1, 16);
        r.writeAll(1, 0, 5, 0);
        r.beginAndPrewrite(3, 0, 6, 0);
        r.beginAndPrewrite(4, 1, 7, 1);
        r.due(5).begin(2);
        r.beginAndPrewrite(6, 3, 8, 2);
        r.due(OK).tick(1);
        r.turns(5, "holder 0: 3 > -1", "lease 3: 0 > -1", "fate 3: 0 > -1").read(2, 0);
        r.same(ABSENT).read(2, 2);
        r.same(ABSENT).read(2, 3);
        r.turns(ABSENT, "holder 1: 4 > -1", "lease 4: 0 > -1", "fate 4: 0 > -1").read(2, 1);
        // No read has drawn a timestamp.
        r.due(7).stamp(0);
    }

    private static void latestSnapshot() {
        Run r = new Run("s at the end of the clock", 2, 2, 1, 32);
        for (int start = 1; start < 61; start += 2) {
            r.writeAll(start, 0, start, 0);
        }
        r.beginAndPrewrite(61, 0, 61, 0);
        r.due(62).begin(1);
        r.same(LOCKED).read(1, 0);
        r.due(63).stamp(0);
        r.due(OK).commit(0, 0);
        r.same(59).read(1, 0);
    }
}
