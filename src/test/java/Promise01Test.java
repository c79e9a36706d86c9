/** Promise 1: the constructor, the start, and the words used. */
final class Promise01Test extends Names {
    public static void main(String[] args) {
        for (int[] asked : new int[][] {{LEAST, 1}, {-1, 1}, {0, 1}, {1, 1}, {2, 2}, {7, 7}, {8, 8}, {9, 8}, {MOST, 8}}) {
            clientsAre(asked[0], asked[1]);
        }
        for (int[] asked : new int[][] {{LEAST, 2}, {0, 2}, {1, 2}, {2, 2}, {3, 3}, {7, 7}, {8, 8}, {9, 8}, {MOST, 8}}) {
            rowsAre(asked[0], asked[1]);
        }
        for (int[] asked : new int[][] {{LEAST, 1}, {0, 1}, {1, 1}, {2, 2}, {99, 99}, {100, 100}, {101, 100}, {MOST, 100}}) {
            leaseIs(asked[0], asked[1]);
        }
        for (int[] asked : new int[][] {{LEAST, 8}, {7, 8}, {8, 8}, {9, 9}, {31, 31}, {32, 32}, {33, 32}, {MOST, 32}}) {
            txnsAre(asked[0], asked[1]);
        }
        freshObject();
        clockToItsEnd();
        lastStart();
        lateVersionIsAConflict();
        neighboursAreApart();
        ownerIsNotTold();
        rollBackEndsAllHolds();
        versionsOfAllRowsAtOnce();
        absentIsAValue();
        objectsAreApart();
        Run.end();
    }

    private static void clientsAre(int asked, int clients) {
        Run r = new Run("clients " + asked, asked, 2, 1, 8);
        r.due(1).begin(clients - 1);
        r.same(BAD).begin(clients);
        r.same(BAD).begin(-1);
        r.same(BAD).begin(LEAST);
        r.same(BAD).begin(MOST);
    }

    private static void rowsAre(int asked, int rows) {
        Run r = new Run("rows " + asked, 1, asked, 1, 8);
        r.due(ABSENT).holder(rows - 1);
        r.due(ABSENT).holder(0);
        r.due(BAD).holder(rows);
        r.due(BAD).holder(-1);
        r.due(BAD).holder(LEAST);
        r.due(BAD).holder(MOST);
        r.writeAll(1, 0, 5, rows - 1, 0);
        r.due(5).peek(rows - 1, 2);
    }

    private static void leaseIs(int asked, int lease) {
        Run r = new Run("lease " + asked, 1, 2, asked, 8);
        r.beginAndPrewrite(1, 0, 5, 0);
        r.due(lease).leaseLeft(1);
    }

    private static void txnsAre(int asked, int txns) {
        Run r = new Run("txns " + asked, 1, 2, 1, asked);
        for (int i = 1; i <= txns; i++) {
            r.due(i).begin(0);
            r.due(OK).crash(0);
        }
        r.same(FULL).begin(0);
    }

    private static void freshObject() {
        Run r = new Run("fresh", 8, 8, 5, 32);
        for (int i = 0; i < 8; i++) {
            r.due(PH_IDLE).phase(i);
            r.due(ABSENT).holder(i);
            r.due(ABSENT).versionTime(i, MOST);
            r.due(ABSENT).peek(i, MOST);
        }
        for (int start = -1; start <= 65; start++) {
            r.due(ABSENT).fate(start);
            r.due(ABSENT).leaseLeft(start);
        }
        r.due(1).begin(3);
    }

    private static void clockToItsEnd() {
        Run r = new Run("clock", 1, 8, 1, 32);
        for (int start = 1; start < 64; start += 2) {
            r.writeAll(start, 0, start, 7, 0);
        }
        r.same(FULL).begin(0);
        r.due(64).fate(63);
        r.due(64).versionTime(7, 64);
        r.due(62).versionTime(7, 63);
        r.due(63).peek(0, MOST);
        r.due(1).peek(0, 2);
    }

    private static void lastStart() {
        Run r = new Run("last start", 1, 8, 3, 32);
        for (int start = 1; start < 62; start += 2) {
            r.writeAll(start, 0, start, 7);
        }
        r.beginAndPrewrite(63, 0, 5, 7);
        r.due(OK).tick(1);
        r.due(2).leaseLeft(63);
        r.due(63).holder(7);
        r.due(OK).tick(2);
        r.due(0).leaseLeft(63);
        r.due(OK).heartbeat(0);
        r.due(3).leaseLeft(63);
        r.due(PENDING).fate(63);
        r.due(61).read(0, 7);
        r.due(64).stamp(0);
    }

    /** The latest version that can still meet a prewrite: one transaction has not stamped. */
    private static void lateVersionIsAConflict() {
        Run r = new Run("late version", 2, 2, 3, 32);
        r.due(1).begin(0);
        r.due(OK).put(0, 0, 9);
        for (int start = 2; start < 61; start += 2) {
            r.writeAll(start, 1, start, 1);
        }
        r.writeAll(62, 1, 62, 0);
        r.due(63).versionTime(0, MOST);
        r.same(CONFLICT).prewrite(0, 0);
    }

    private static void neighboursAreApart() {
        Run r = new Run("neighbours", 8, 8, 3, 8);
        for (int client = 0; client < 8; client++) {
            r.due(client + 1).begin(client);
            r.due(OK).put(client, client, 10 + client);
            r.due(OK).put(client, 7 - client, 20 + client);
        }
        for (int client = 0; client < 8; client++) {
            for (int row = 0; row < 8; row++) {
                boolean high = row == 7 - client;
                boolean low = row == client;
                r.due(high || low ? ST_PUT : ST_NONE).stage(client, row);
                r.due(high ? 20 + client : low ? 10 + client : NOT_PUT).value(client, row);
            }
        }
        // Rows 0 and 7 of clients side by side: one commits, and its neighbour has only put.
        for (int client = 7; client > 3; client--) {
            r.due(OK).prewrite(client, client);
            r.due(OK).prewrite(client, 7 - client);
            r.due(16 - client).stamp(client);
            r.due(OK).commit(client, client);
            r.due(OK).commit(client, 7 - client);
            r.due(PH_IDLE).phase(client);
            r.due(10 + client).peek(client, MOST);
            r.due(20 + client).peek(7 - client, MOST);
        }
        for (int client = 0; client < 4; client++) {
            r.due(PH_BUFFERING).phase(client);
            r.due(ST_PUT).stage(client, client);
            r.same(CONFLICT).prewrite(client, client);
        }
        Run n = new Run("next client's row 0", 2, 8, 3, 8);
        n.due(1).begin(1);
        n.due(OK).put(1, 0, 5);
        n.writeAll(2, 0, 6, 7);
        n.due(PH_IDLE).phase(0);
        n.due(ST_PUT).stage(1, 0);
        n.due(ABSENT).versionTime(0, MOST);
    }

    private static void ownerIsNotTold() {
        Run r = new Run("not told", 2, 3, 1, 8);
        r.beginAndPrewrite(1, 0, 50, 2, 1);
        r.due(2).stamp(0);
        r.due(OK).tick(1);
        r.due(3).begin(1);
        r.due(ABSENT).read(1, 2);
        r.due(ABSENT).fate(1);
        r.due(PH_STAMPED).phase(0);
        r.due(1).look(0, LOOK_START, 0);
        r.due(2).look(0, LOOK_STAMP, 0);
        r.due(2).look(0, LOOK_PRIMARY, 0);
        r.due(ST_PREWRITTEN).stage(0, 1);
        r.due(ST_PREWRITTEN).stage(0, 2);
        r.due(50).value(0, 2);
    }

    private static void rollBackEndsAllHolds() {
        Run r = new Run("all holds", 2, 4, 1, 8);
        r.beginAndPrewrite(1, 0, 50, 0, 1, 3);
        r.due(OK).tick(1);
        r.due(2).begin(1);
        r.due(ABSENT).read(1, 1);
        r.due(ABSENT).holder(0);
        r.due(ABSENT).holder(1);
        r.due(ABSENT).holder(3);
        r.due(ABSENT).leaseLeft(1);
    }

    private static void versionsOfAllRowsAtOnce() {
        Run r = new Run("at once", 1, 4, 1, 8);
        r.beginAndPrewrite(1, 0, 50, 3, 0);
        r.due(2).stamp(0);
        r.due(ABSENT).versionTime(0, 2);
        r.due(OK).commit(0, 3);
        r.due(2).versionTime(0, 2);
        r.due(2).versionTime(3, 2);
        r.due(ABSENT).versionTime(1, 2);
        r.due(50).peek(0, 2);
    }

    private static void absentIsAValue() {
        Run r = new Run("absent", 1, 2, 1, 8);
        r.writeAll(1, 0, 9999, 0);
        r.writeAll(3, 0, -1, 0);
        r.due(5).begin(0);
        r.due(ABSENT).read(0, 0);
        r.due(ABSENT).peek(0, 4);
        r.due(4).versionTime(0, 4);
        r.due(9999).peek(0, 3);
    }

    private static void objectsAreApart() {
        Run one = new Run("one", 1, 2, 1, 8);
        Run two = new Run("two", 1, 2, 1, 8);
        one.writeAll(1, 0, 5, 0);
        two.due(ABSENT).peek(0, 9);
        two.due(1).begin(0);
        one.due(3).begin(0);
    }
}
