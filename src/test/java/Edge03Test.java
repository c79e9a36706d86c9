/** The edges that promise 3 (put) names; each run is named after the words or the case that it tests. */
final class Edge03Test extends Names {
    public static void main(String[] args) {
        clientOrRowOutOfRange();
        valueNotInRange();
        badBeforeAllOthers();
        idleClient();
        notBuffering();
        replacesAnyValue();
        everyRowAtOnce();
        holdersAndVersions();
        nothingElse();
        Run.end();
    }

    private static void clientOrRowOutOfRange() {
        Run r = new Run("BAD: client or row out of range", 2, 3, 1, 8);
        r.due(1).begin(0);
        r.due(2).begin(1);
        for (int client : new int[] {LEAST, -1, 2, 8, MOST}) {
            r.same(BAD).put(client, 0, 5);
            r.same(BAD).put(client, 3, 5);
        }
        for (int row : new int[] {LEAST, -1, 3, 8, MOST}) {
            r.same(BAD).put(0, row, 5);
            r.same(BAD).put(1, row, 5);
        }
        r.turns(OK, "stage 1.2: 0 > 1", "value 1.2: -7 > 5").put(1, 2, 5);
    }

    private static void valueNotInRange() {
        Run r = new Run("BAD: value not in -1..9999", 1, 2, 1, 8);
        r.beginAndPut(1, 0, 7, 0);
        int before = 7;
        for (int value : new int[] {-1, 0, 1, 9998, 9999}) {
            for (int wrong : new int[] {LEAST, LEAST + 1, -10000, -3, -2, 10000, 10001, 65535, 65536, MOST}) {
                r.same(BAD).put(0, 0, wrong);
                r.same(BAD).put(0, 1, wrong);
            }
            r.turns(OK, "value 0.0: " + before + " > " + value).put(0, 0, value);
            before = value;
        }
    }

    private static void badBeforeAllOthers() {
        Run r = new Run("BAD comes before NO_TXN and NOT_NOW", 2, 2, 1, 8);
        r.beginAndPrewrite(1, 1, 5, 0);
        for (int client = 0; client < 2; client++) {
            r.same(BAD).put(client, 2, 5);
            r.same(BAD).put(client, -1, 5);
            r.same(BAD).put(client, 0, -2);
            r.same(BAD).put(client, 0, 10000);
        }
        r.same(BAD).put(2, 0, 5);
        r.same(NO_TXN).put(0, 0, 5);
        r.same(NOT_NOW).put(1, 0, 5);
    }

    private static void idleClient() {
        Run r = new Run("NO_TXN: the client is idle", 2, 2, 1, 8);
        r.same(NO_TXN).put(0, 0, -1);
        r.due(1).begin(1);
        r.same(NO_TXN).put(0, 0, 9999);
        r.due(OK).crash(1);
        r.same(NO_TXN).put(1, 1, 5);
        r.writeAll(2, 0, 6, 1);
        r.same(NO_TXN).put(0, 1, 5);
        r.due(4).begin(0);
        r.due(OK).abandon(0);
        r.same(NO_TXN).put(0, 1, 5);
    }

    private static void notBuffering() {
        Run r = new Run("NOT_NOW: the phase isn't PH_BUFFERING", 2, 4, 1, 8);
        r.beginAndPut(1, 0, 5, 0, 1);
        r.due(OK).prewrite(0, 0);
        everyRowIsNotNow(r);
        r.due(OK).prewrite(0, 1);
        everyRowIsNotNow(r);
        r.due(OK).tick(1);
        r.due(2).begin(1);
        r.due(ABSENT).read(1, 0);
        everyRowIsNotNow(r);
        r.due(3).stamp(0);
        everyRowIsNotNow(r);
        r.due(OK).abandon(1);
        r.due(GONE).commit(0, 0);
        r.beginAndPrewrite(4, 0, 5, 0, 1);
        r.due(5).stamp(0);
        r.due(OK).commit(0, 0);
        everyRowIsNotNow(r);
    }

    private static void everyRowIsNotNow(Run r) {
        for (int row = 0; row < 4; row++) {
            r.same(NOT_NOW).put(0, row, 6);
        }
    }

    private static void replacesAnyValue() {
        Run r = new Run("ST_PUT with this value, replacing any value put before", 1, 2, 1, 8);
        r.due(1).begin(0);
        r.turns(OK, "stage 0.1: 0 > 1", "value 0.1: -7 > 9999").put(0, 1, 9999);
        r.turns(OK, "value 0.1: 9999 > -1").put(0, 1, -1);
        r.turns(OK, "value 0.1: -1 > 0").put(0, 1, 0);
        r.same(OK).put(0, 1, 0);
        r.turns(OK, "value 0.1: 0 > 8").put(0, 1, 8);
        r.due(OK).prewrite(0, 1);
        r.due(2).stamp(0);
        r.due(OK).commit(0, 1);
        r.due(8).peek(1, 2);
        // A value of the transaction before is not there to be replaced.
        r.due(3).begin(0);
        r.turns(OK, "stage 0.1: 0 > 1", "value 0.1: -7 > 8").put(0, 1, 8);
    }

    private static void everyRowAtOnce() {
        Run r = new Run("other rows don't change", 8, 8, 1, 8);
        for (int client = 0; client < 8; client++) {
            r.due(client + 1).begin(client);
        }
        for (int client = 7; client >= 0; client--) {
            for (int row = 0; row < 8; row++) {
                String cell = client + "." + row + ": ";
                int value = 100 * client + row;
                r.turns(OK, "stage " + cell + "0 > 1", "value " + cell + "-7 > " + value).put(client, row, value);
            }
        }
    }

    private static void holdersAndVersions() {
        Run r = new Run("Holders and versions of the row are not regarded", 4, 3, 2, 8);
        r.due(1).begin(0);
        r.writeAll(2, 1, 20, 0);
        r.beginAndPrewrite(4, 1, 30, 1);
        r.due(5).begin(2);
        r.turns(OK, "stage 0.0: 0 > 1", "value 0.0: -7 > 1").put(0, 0, 1);
        r.turns(OK, "stage 0.1: 0 > 1", "value 0.1: -7 > 2").put(0, 1, 2);
        r.turns(OK, "stage 2.1: 0 > 1", "value 2.1: -7 > 3").put(2, 1, 3);
        r.due(OK).tick(2);
        r.turns(OK, "value 0.1: 2 > 4").put(0, 1, 4);
        r.turns(OK, "value 2.1: 3 > 5").put(2, 1, 5);
        r.due(4).holder(1);
    }

    private static void nothingElse() {
        Run r = new Run("Phase, fates and versions don't change", 1, 3, 2, 8);
        r.due(1).begin(0);
        r.due(OK).put(0, 2, 5);
        r.due(PH_BUFFERING).phase(0);
        r.due(ABSENT).fate(1);
        r.due(ABSENT).leaseLeft(1);
        r.due(ABSENT).holder(2);
        r.due(ABSENT).versionTime(2, MOST);
        r.same(ABSENT).read(0, 2);
    }
}
