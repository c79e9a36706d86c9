/** The edges that promise 1 names; each run is named after the words or the case that it tests. */
final class Edge01Test extends Names {
    private static final int[] SIZES = {LEAST, LEAST + 1, -1, 0, 1, 2, 3, 7, 8, 9, 31, 32, 33, 99, 100, 101, MOST - 1, MOST};

    public static void main(String[] args) {
        everyIntIsAccepted();
        freshObject();
        anythingElseIsOutOfRange();
        rowsAreNumberedAlikeInEveryCall();
        namedByStartTimestamp();
        onlyBeginAndStampDraw();
        clockAtItsEndInTurn();
        clockAtItsEndAllAtOnce();
        clockAtItsEndWithRollBacks();
        noneBefore();
        forgottenByTheClient();
        unbornUntilAnOkPrewrite();
        committedForEver();
        rolledBackForEver();
        holdsEveryRowPrewritten();
        notPendingStandsInNobodysWay();
        crashedStaysPending();
        endsAllItsHoldsAtOnce();
        everyRowPutGetsItsVersion();
        versionsNeverGoAway();
        absentIsAValueLikeAnyOther();
        Run.end();
    }

    private static void everyIntIsAccepted() {
        for (int clients : SIZES) {
            for (int rows : SIZES) {
                sizesAre(clients, rows, 5, 9);
                sizesAre(clients, 5, rows, 9);
                sizesAre(clients, 5, 9, rows);
                sizesAre(5, clients, rows, 9);
                sizesAre(5, clients, 9, rows);
                sizesAre(5, 7, clients, rows);
            }
            sizesAre(clients, clients, clients, clients);
        }
    }

    private static int clamped(int asked, int least, int greatest) {
        return Math.max(least, Math.min(greatest, asked));
    }

    private static void sizesAre(int clients, int rows, int lease, int txns) {
        Run r = new Run("Every int is accepted for every argument", clients, rows, lease, txns);
        int last = clamped(clients, 1, 8) - 1;
        int lastRow = clamped(rows, 2, 8) - 1;
        int begins = clamped(txns, 8, 32);
        r.due(PH_IDLE).phase(last);
        r.due(BAD).phase(last + 1);
        r.due(ABSENT).holder(lastRow);
        r.due(BAD).holder(lastRow + 1);
        r.beginAndPrewrite(1, last, 5, lastRow);
        r.due(clamped(lease, 1, 100)).leaseLeft(1);
        r.due(OK).crash(last);
        r.passBegins(2, begins, last);
        r.due(FULL).begin(last);
    }

    private static void freshObject() {
        int[][] sizes = {{1, 2, 1, 8}, {8, 8, 100, 32}, {3, 5, 7, 9},
            {LEAST, LEAST, LEAST, LEAST}, {MOST, MOST, MOST, MOST}, {0, 1, 0, 7}, {9, 9, 101, 33}};
        for (int[] size : sizes) {
            Run r = new Run("In a fresh object", size[0], size[1], size[2], size[3]);
            for (int client = 0; client < clamped(size[0], 1, 8); client++) {
                r.same(PH_IDLE).phase(client);
                r.same(NO_TXN).crash(client);
            }
            for (int row = 0; row < clamped(size[1], 2, 8); row++) {
                r.same(ABSENT).holder(row);
                for (int ts : new int[] {LEAST, -1, 0, 1, 2, 64, 65, MOST}) {
                    r.same(ABSENT).versionTime(row, ts);
                    r.same(ABSENT).peek(row, ts);
                }
            }
            for (int start : new int[] {LEAST, -1, 0, 1, 2, 63, 64, 65, MOST}) {
                r.same(ABSENT).fate(start);
                r.same(ABSENT).leaseLeft(start);
            }
            r.same(OK).tick(1);
            r.turns(1, "phase 0: 0 > 1", "start 0: -1 > 1").begin(0);
        }
    }

    private static void anythingElseIsOutOfRange() {
        for (int clients = 1; clients <= 8; clients++) {
            Run r = new Run("Clients are 0..clients-1", clients, 2, 3, 8);
            for (int client = 0; client < clients; client++) {
                r.due(client + 1).begin(client);
            }
            for (int client : new int[] {LEAST, -8, -1, clients, clients + 1, 8, 64, MOST}) {
                r.same(BAD).begin(client);
                r.same(BAD).put(client, 0, 1);
                r.same(BAD).prewrite(client, 0);
                r.same(BAD).stamp(client);
                r.same(BAD).commit(client, 0);
                r.same(BAD).heartbeat(client);
                r.same(BAD).abandon(client);
                r.same(BAD).crash(client);
                r.same(BAD).read(client, 0);
                r.same(BAD).look(client, LOOK_PHASE, 0);
            }
        }
        for (int rows = 2; rows <= 8; rows++) {
            Run r = new Run("rows 0..rows-1", 1, rows, 3, 8);
            r.due(1).begin(0);
            for (int row : new int[] {LEAST, -8, -1, rows, rows + 1, 8, 64, MOST}) {
                r.same(BAD).put(0, row, 1);
                r.same(BAD).prewrite(0, row);
                r.same(BAD).commit(0, row);
                r.same(BAD).read(0, row);
                r.same(BAD).peek(row, 1);
                r.same(BAD).versionTime(row, 1);
                r.same(BAD).holder(row);
                r.same(BAD).look(0, LOOK_STAGE, row);
                r.same(BAD).look(0, LOOK_VALUE, row);
            }
        }
    }

    private static void rowsAreNumberedAlikeInEveryCall() {
        for (int clients = 1; clients <= 8; clients++) {
            for (int rows = 2; rows <= 8; rows++) {
                Run r = new Run("the last client and the last row", clients, rows, 3, 8);
                int client = clients - 1;
                int row = rows - 1;
                r.beginAndPrewrite(1, client, 5, row);
                r.due(1).holder(row);
                r.due(OK).heartbeat(client);
                r.due(ABSENT).read(client, row);
                r.due(2).stamp(client);
                r.due(OK).commit(client, row);
                r.due(5).peek(row, 2);
                r.due(2).versionTime(row, 2);
                r.due(3).begin(client);
                r.due(5).read(client, row);
                r.due(OK).abandon(client);
            }
        }
    }

    private static void namedByStartTimestamp() {
        Run r = new Run("Transactions are named by their start timestamp", 2, 2, 3, 8);
        r.beginAndPrewrite(1, 1, 5, 0);
        r.due(2).stamp(1);
        r.beginAndPrewrite(3, 0, 6, 1);
        r.due(1).holder(0);
        r.due(3).holder(1);
        r.due(PENDING).fate(3);
        r.due(ABSENT).fate(2);
        r.due(3).leaseLeft(3);
        r.due(ABSENT).leaseLeft(2);
        r.due(OK).commit(1, 0);
        r.due(2).fate(1);
        r.due(ABSENT).fate(2);
    }

    /** The clock is told by a begin; client 3 has no other use here. */
    private static int clockIs(Run r, int clock) {
        r.due(clock + 1).begin(3);
        r.due(OK).crash(3);
        return clock + 1;
    }

    private static void onlyBeginAndStampDraw() {
        Run r = new Run("Only begin and stamp draw, and only when they answer a positive number", 4, 4, 2, 32);
        int clock = clockIs(r, 0);
        r.due(BAD).begin(4);
        r.due(NO_TXN).stamp(0);
        clock = clockIs(r, clock);
        r.due(clock + 1).begin(0);
        r.due(BUSY).begin(0);
        r.due(NOT_NOW).stamp(0);
        clock = clockIs(r, clock + 1);
        r.due(OK).put(0, 0, 9999);
        r.due(OK).put(0, 1, 9999);
        clock = clockIs(r, clock);
        r.due(OK).prewrite(0, 0);
        r.due(NOT_NOW).stamp(0);
        clock = clockIs(r, clock);
        r.due(OK).prewrite(0, 1);
        clock = clockIs(r, clock);
        r.due(OK).heartbeat(0);
        clock = clockIs(r, clock);
        r.due(OK).tick(1);
        clock = clockIs(r, clock);
        r.due(clock + 1).begin(1);
        r.due(LOCKED).read(1, 0);
        clock = clockIs(r, clock + 1);
        r.due(clock + 1).stamp(0);
        r.due(NOT_NOW).stamp(0);
        clock = clockIs(r, clock + 1);
        r.due(OK).commit(0, 0);
        clock = clockIs(r, clock);
        r.due(NOT_NOW).stamp(0);
        r.due(OK).commit(0, 1);
        clock = clockIs(r, clock);
        r.due(ABSENT).read(1, 0);
        r.due(OK).put(1, 0, 1);
        r.due(CONFLICT).prewrite(1, 0);
        clock = clockIs(r, clock);
        r.due(OK).abandon(1);
        clock = clockIs(r, clock);
        r.beginAndPrewrite(clock + 1, 1, 4, 2);
        r.due(OK).crash(1);
        r.due(OK).tick(2);
        clock = clockIs(r, clock + 1);
        r.beginAndPrewrite(clock + 1, 2, 4, 2);
        clockIs(r, clock + 1);
    }

    private static void clockAtItsEndInTurn() {
        Run r = new Run("the clock never passes 64, in turn", 2, 2, 1, MOST);
        for (int start = 1; start < 64; start += 2) {
            r.writeAll(start, 0, start, 1);
        }
        nothingDrawsAnyMore(r);
    }

    private static void clockAtItsEndAllAtOnce() {
        Run r = new Run("the clock never passes 64, all at once", 8, 8, 100, 32);
        for (int start = 1; start < 48; start += 2) {
            r.writeAll(start, 0, start, 1);
        }
        for (int client = 0; client < 8; client++) {
            r.beginAndPrewrite(49 + client, client, 100 + client, client);
        }
        for (int client = 0; client < 8; client++) {
            r.same(BUSY).begin(client);
        }
        for (int client = 0; client < 8; client++) {
            r.due(57 + client).stamp(client);
        }
        for (int client = 7; client >= 0; client--) {
            r.due(PENDING).fate(49 + client);
            r.turns(OK, "phase " + client + ": 3 > 0", "start " + client + ": " + (49 + client) + " > -1",
                    "stamp " + client + ": " + (57 + client) + " > -1", "primary " + client + ": " + client + " > -1",
                    "stage " + client + "." + client + ": 2 > 0",
                    "value " + client + "." + client + ": " + (100 + client) + " > -7",
                    "holder " + client + ": " + (49 + client) + " > -1",
                    "version " + client + "@" + (57 + client) + ": none > " + (100 + client),
                    "lease " + (49 + client) + ": 100 > -1", "fate " + (49 + client) + ": 0 > " + (57 + client))
                    .commit(client, client);
        }
        nothingDrawsAnyMore(r);
    }

    /** Each transaction is rolled back by the next one, and draws its stamp all the same. */
    private static void clockAtItsEndWithRollBacks() {
        Run r = new Run("the clock never passes 64, with roll backs", 2, 2, 1, 32);
        r.beginAndPrewrite(1, 0, 5, 0);
        for (int start = 2; start < 64; start += 2) {
            int old = start / 2 % 2 == 1 ? 0 : 1;
            r.due(OK).tick(1);
            r.beginAndPrewrite(start, 1 - old, 5, 0);
            r.due(start + 1).stamp(old);
            r.due(GONE).commit(old, 0);
        }
        r.due(64).stamp(1);
        r.due(OK).commit(1, 0);
        r.due(64).fate(62);
        r.due(64).versionTime(0, 64);
        r.due(ABSENT).versionTime(0, 63);
        nothingDrawsAnyMore(r);
    }

    private static void nothingDrawsAnyMore(Run r) {
        r.same(FULL).begin(0);
        r.same(FULL).begin(1);
        r.same(NO_TXN).stamp(0);
        r.same(NO_TXN).read(0, 0);
        r.same(OK).tick(MOST);
        r.same(ABSENT).fate(65);
        r.same(ABSENT).leaseLeft(65);
        r.same(FULL).begin(0);
    }

    private static void noneBefore() {
        Run r = new Run("a stamp (none before PH_STAMPED), a primary row (none before PH_PREWRITING)", 1, 3, 3, 8);
        r.turns(1, "phase 0: 0 > 1", "start 0: -1 > 1").begin(0);
        r.turns(OK, "stage 0.1: 0 > 1", "value 0.1: -7 > 8").put(0, 1, 8);
        r.turns(OK, "stage 0.2: 0 > 1", "value 0.2: -7 > 9").put(0, 2, 9);
        r.turns(OK, "phase 0: 1 > 2", "primary 0: -1 > 2", "stage 0.2: 1 > 2", "holder 2: -1 > 1",
                "lease 1: -1 > 3", "fate 1: -1 > 0").prewrite(0, 2);
        r.turns(OK, "stage 0.1: 1 > 2", "holder 1: -1 > 1").prewrite(0, 1);
        r.turns(2, "phase 0: 2 > 3", "stamp 0: -1 > 2").stamp(0);
        r.turns(OK, "phase 0: 3 > 4", "stage 0.2: 2 > 3", "holder 1: 1 > -1", "holder 2: 1 > -1",
                "version 1@2: none > 8", "version 2@2: none > 9", "lease 1: 3 > -1", "fate 1: 0 > 2").commit(0, 2);
        r.turns(OK, "phase 0: 4 > 0", "start 0: 1 > -1", "stamp 0: 2 > -1", "primary 0: 2 > -1",
                "stage 0.1: 2 > 0", "value 0.1: 8 > -7", "stage 0.2: 3 > 0", "value 0.2: 9 > -7").commit(0, 1);
    }

    /** Four ways to become idle, and a begin after each that knows nothing of what was before. */
    private static void forgottenByTheClient() {
        for (int way = 0; way < 4; way++) {
            Run r = new Run("all of this is forgotten by the client, way " + way, 2, 8, 1, 8);
            r.beginAndPrewrite(1, 0, 77, 7, 0, 3);
            r.due(2).stamp(0);
            int clock = 2;
            if (way == 0) {
                r.due(OK).commit(0, 7);
                r.due(OK).commit(0, 0);
                r.due(OK).commit(0, 3);
            } else if (way == 1) {
                r.due(OK).tick(1);
                r.due(3).begin(1);
                r.due(ABSENT).read(1, 3);
                r.due(GONE).commit(0, 7);
                clock = 3;
            } else if (way == 2) {
                r.due(OK).abandon(0);
            } else {
                r.due(OK).crash(0);
            }
            knowsNothing(r, ABSENT);
            int next = clock + 1;
            r.turns(next, "phase 0: 0 > 1", "start 0: -1 > " + next).begin(0);
            knowsNothing(r, next);
            r.same(NOT_NOW).stamp(0);
            r.same(NOT_PUT).prewrite(0, 7);
            r.due(way == 0 ? 2 : way == 3 ? PENDING : ABSENT).fate(1);
            r.due(way == 0 ? 77 : ABSENT).peek(3, MOST);
        }
    }

    private static void knowsNothing(Run r, int start) {
        r.due(start == ABSENT ? PH_IDLE : PH_BUFFERING).phase(0);
        r.due(start).start(0);
        r.due(ABSENT).stampOf(0);
        r.due(ABSENT).primary(0);
        for (int row = 0; row < 8; row++) {
            r.due(ST_NONE).stage(0, row);
            r.due(NOT_PUT).value(0, row);
        }
    }

    private static void unbornUntilAnOkPrewrite() {
        Run r = new Run("UNBORN: begun, but no prewrite of it has answered OK", 3, 3, 2, 8);
        r.beginAndPut(1, 0, 5, 0, 1, 2);
        r.writeAll(2, 1, 6, 0);
        r.beginAndPrewrite(4, 1, 7, 1);
        r.same(CONFLICT).prewrite(0, 0);
        r.same(LOCKED).prewrite(0, 1);
        r.due(ABSENT).fate(1);
        r.due(ABSENT).leaseLeft(1);
        // No tick and no crash of others brings it to life, nor does anybody roll it back.
        r.due(OK).tick(1);
        r.same(LOCKED).prewrite(0, 1);
        r.due(OK).abandon(1);
        r.same(CONFLICT).prewrite(0, 0);
        r.turns(OK, "phase 0: 1 > 2", "primary 0: -1 > 1", "stage 0.1: 1 > 2", "holder 1: -1 > 1",
                "lease 1: -1 > 2", "fate 1: -1 > 0").prewrite(0, 1);
        r.same(CONFLICT).prewrite(0, 0);
        r.due(PENDING).fate(1);
    }

    private static void committedForEver() {
        Run r = new Run("COMMITTED: for ever, at its stamp", 3, 3, 1, 8);
        r.beginAndPrewrite(1, 0, 5, 0, 1);
        r.due(2).stamp(0);
        r.due(OK).commit(0, 0);
        r.same(OK).tick(MOST);
        r.same(NOT_NOW).heartbeat(0);
        r.same(NOT_NOW).abandon(0);
        r.due(3).begin(1);
        r.same(5).read(1, 1);
        r.due(OK).put(1, 1, 6);
        r.due(OK).prewrite(1, 1);
        r.due(2).fate(1);
        r.due(OK).crash(0);
        r.due(2).fate(1);
        r.due(ABSENT).leaseLeft(1);
        r.due(4).stamp(1);
        r.due(OK).commit(1, 1);
        r.due(2).fate(1);
        r.due(4).fate(3);
        r.due(5).peek(1, 3);
    }

    private static void rolledBackForEver() {
        Run r = new Run("ROLLED BACK: for ever", 3, 4, 1, 8);
        r.beginAndPut(1, 0, 5, 0, 1, 2);
        r.due(OK).prewrite(0, 0);
        r.due(OK).tick(1);
        r.due(2).begin(1);
        r.due(ABSENT).read(1, 0);
        r.same(GONE).heartbeat(0);
        r.turns(OK, "stage 0.1: 1 > 2").prewrite(0, 1);
        r.turns(OK, "stage 0.2: 1 > 2").prewrite(0, 2);
        r.same(GONE).heartbeat(0);
        r.same(OK).tick(1);
        r.turns(3, "phase 0: 2 > 3", "stamp 0: -1 > 3").stamp(0);
        r.same(GONE).heartbeat(0);
        r.same(NOT_NOW).commit(0, 1);
        r.turns(GONE, "phase 0: 3 > 0", "start 0: 1 > -1", "stamp 0: 3 > -1", "primary 0: 0 > -1",
                "stage 0.0: 2 > 0", "stage 0.1: 2 > 0", "stage 0.2: 2 > 0",
                "value 0.0: 5 > -7", "value 0.1: 5 > -7", "value 0.2: 5 > -7").commit(0, 0);
        r.due(ABSENT).fate(1);
    }

    private static void holdsEveryRowPrewritten() {
        Run r = new Run("holds every row it has prewritten with answer OK", 2, 8, 100, 8);
        r.due(1).begin(0);
        for (int row = 0; row < 8; row++) {
            r.due(OK).put(0, row, row);
        }
        for (int row = 7; row >= 0; row--) {
            r.due(ABSENT).holder(row);
            r.due(OK).prewrite(0, row);
            r.due(1).holder(row);
        }
        r.due(100).leaseLeft(1);
        r.due(2).begin(1);
        for (int row = 0; row < 8; row++) {
            r.due(1).holder(row);
            r.same(LOCKED).read(1, row);
            r.due(OK).put(1, row, 9);
            r.same(LOCKED).prewrite(1, row);
        }
        r.due(OK).tick(100);
        r.due(0).leaseLeft(1);
        r.due(1).holder(7);
    }

    private static void notPendingStandsInNobodysWay() {
        Run r = new Run("A transaction that isn't PENDING holds nothing and stands in nobody's way", 4, 3, 2, 16);
        // UNBORN: it has put the row.
        r.beginAndPut(1, 0, 5, 0);
        r.due(2).begin(1);
        r.same(ABSENT).read(1, 0);
        // COMMITTED: it has not come to its second row.
        r.beginAndPrewrite(3, 2, 6, 1, 2);
        r.due(4).stamp(2);
        r.due(OK).commit(2, 1);
        r.due(5).begin(3);
        r.same(6).read(3, 2);
        r.due(OK).put(3, 2, 7);
        r.due(OK).prewrite(3, 2);
        // ROLLED BACK: its owner still counts the row among those prewritten.
        r.due(OK).tick(2);
        r.due(OK).crash(1);
        r.due(6).begin(1);
        r.due(6).read(1, 2);
        r.due(ST_PREWRITTEN).stage(3, 2);
        r.due(ABSENT).holder(2);
        r.due(OK).put(1, 2, 8);
        r.due(OK).prewrite(1, 2);
        r.due(6).holder(2);
        // Its later calls don't disturb the one that holds the row now.
        r.turns(7, "phase 3: 2 > 3", "stamp 3: -1 > 7").stamp(3);
        r.due(GONE).abandon(3);
        r.due(6).holder(2);
        r.due(2).leaseLeft(6);
    }

    private static void crashedStaysPending() {
        Run r = new Run("A PENDING transaction whose client has crashed stays PENDING", 2, 3, 2, 8);
        r.beginAndPrewrite(1, 0, 5, 0, 1);
        r.due(OK).crash(0);
        r.due(PENDING).fate(1);
        r.due(2).begin(0);
        r.due(OK).crash(0);
        r.due(3).begin(0);
        r.same(LOCKED).read(0, 1);
        r.due(OK).tick(MOST);
        r.due(PENDING).fate(1);
        r.due(1).holder(1);
        r.due(OK).abandon(0);
        r.due(PENDING).fate(1);
        r.due(1).holder(0);
    }

    private static void endsAllItsHoldsAtOnce() {
        Run r = new Run("ends all its holds at once. Its owner isn't told", 3, 8, 1, 8);
        r.beginAndPrewrite(1, 0, 5, 4, 0, 7);
        r.beginAndPrewrite(2, 1, 6, 1, 6);
        r.due(OK).tick(1);
        r.due(3).begin(2);
        r.turns(ABSENT, "holder 0: 1 > -1", "holder 4: 1 > -1", "holder 7: 1 > -1",
                "lease 1: 0 > -1", "fate 1: 0 > -1").read(2, 7);
        r.turns(ABSENT, "holder 1: 2 > -1", "holder 6: 2 > -1", "lease 2: 0 > -1", "fate 2: 0 > -1").read(2, 1);
    }

    private static void everyRowPutGetsItsVersion() {
        Run r = new Run("every row it has put gets, at that moment, the version (stamp, value put)", 1, 8, 1, 8);
        r.due(1).begin(0);
        for (int row = 0; row < 8; row++) {
            r.due(OK).put(0, row, row - 1);
        }
        for (int row = 0; row < 8; row++) {
            r.due(OK).prewrite(0, (row + 3) % 8);
        }
        r.due(2).stamp(0);
        for (int row = 0; row < 8; row++) {
            r.due(ABSENT).versionTime(row, MOST);
        }
        r.due(OK).commit(0, 3);
        for (int row = 0; row < 8; row++) {
            r.due(2).versionTime(row, MOST);
            r.due(row - 1).peek(row, 2);
        }
    }

    private static void versionsNeverGoAway() {
        Run r = new Run("Versions never change or go away", 1, 2, 1, 32);
        for (int start = 1; start < 64; start += 2) {
            r.writeAll(start, 0, 1000 + start, 1);
        }
        for (int time = 2; time <= 64; time += 2) {
            r.due(time).versionTime(1, time);
            r.due(time).versionTime(1, time + 1);
            r.due(999 + time).peek(1, time);
            r.due(999 + time).peek(1, time + 1);
            r.due(ABSENT).versionTime(0, time);
        }
        r.due(ABSENT).versionTime(1, 1);
    }

    private static void absentIsAValueLikeAnyOther() {
        Run r = new Run("the value -1 is put, versioned and read like any other value", 2, 2, 1, 8);
        r.writeAll(1, 0, 5, 0);
        r.due(3).begin(0);
        r.turns(OK, "stage 0.0: 0 > 1", "value 0.0: -7 > -1").put(0, 0, -1);
        r.due(OK).prewrite(0, 0);
        r.due(4).begin(1);
        r.same(LOCKED).read(1, 0);
        r.due(5).stamp(0);
        r.due(OK).commit(0, 0);
        r.same(5).read(1, 0);
        r.due(OK).put(1, 0, 7);
        r.same(CONFLICT).prewrite(1, 0);
        r.due(OK).abandon(1);
        r.due(6).begin(1);
        r.same(ABSENT).read(1, 0);
        r.due(5).versionTime(0, 6);
        r.due(ABSENT).peek(0, 6);
    }
}
