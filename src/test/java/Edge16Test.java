/** The edges that promise 16 (look) names; each run is named after the words or the case that it tests. */
final class Edge16Test extends Names {
    private static final int[] NO_WHAT = {LEAST, LEAST + 1, -2, -1, 6, 7, 256, 65536, MOST - 1, MOST};

    public static void main(String[] args) {
        clientOutOfRange();
        whatOutOfRange();
        rowOutOfRange();
        rowIsIgnored();
        idleClient();
        noneYet();
        valuePut();
        eachRowAndClient();
        rollBackDoesNotAlterThem();
        Run.end();
    }

    private static void clientOutOfRange() {
        for (int clients : new int[] {1, 2, 7, 8}) {
            Run r = new Run("BAD: client out of range", clients, 2, 1, 8);
            r.beginAndPrewrite(1, clients - 1, 5, 0);
            for (int client : new int[] {LEAST, -1, clients, clients + 1, 8, MOST}) {
                for (int what = -1; what <= 6; what++) {
                    r.same(BAD).look(client, what, 0);
                    r.same(BAD).look(client, what, 2);
                }
            }
            r.same(PH_PREWRITING).look(clients - 1, LOOK_PHASE, 0);
        }
    }

    private static void whatOutOfRange() {
        Run r = new Run("BAD: what not in 0..5", 2, 2, 1, 8);
        r.beginAndPrewrite(1, 1, 5, 0);
        for (int client = 0; client < 2; client++) {
            for (int what : NO_WHAT) {
                for (int row : new int[] {LEAST, -1, 0, 1, 2, MOST}) {
                    r.same(BAD).look(client, what, row);
                }
            }
        }
        r.same(PH_PREWRITING).look(1, 0, 0);
        r.same(5).look(1, 5, 0);
    }

    private static void rowOutOfRange() {
        for (int rows = 2; rows <= 8; rows++) {
            Run r = new Run("BAD: what is LOOK_STAGE or LOOK_VALUE and row is out of range", 2, rows, 1, 8);
            r.beginAndPrewrite(1, 1, 5, 0, rows - 1);
            for (int client = 0; client < 2; client++) {
                for (int row : new int[] {LEAST, -8, -1, rows, rows + 1, 8, 64, MOST}) {
                    r.same(BAD).look(client, LOOK_STAGE, row);
                    r.same(BAD).look(client, LOOK_VALUE, row);
                }
            }
            r.same(ST_PREWRITTEN).look(1, LOOK_STAGE, rows - 1);
            r.same(5).look(1, LOOK_VALUE, rows - 1);
        }
    }

    private static void rowIsIgnored() {
        Run r = new Run("With any other what, row is ignored and may be any int", 2, 3, 1, 8);
        r.beginAndPrewrite(1, 1, 5, 2);
        r.due(2).stamp(1);
        for (int row : new int[] {LEAST, LEAST + 1, -1, 0, 1, 2, 3, 8, 64, MOST - 1, MOST}) {
            r.same(PH_IDLE).look(0, LOOK_PHASE, row);
            r.same(ABSENT).look(0, LOOK_START, row);
            r.same(ABSENT).look(0, LOOK_STAMP, row);
            r.same(ABSENT).look(0, LOOK_PRIMARY, row);
            r.same(PH_STAMPED).look(1, LOOK_PHASE, row);
            r.same(1).look(1, LOOK_START, row);
            r.same(2).look(1, LOOK_STAMP, row);
            r.same(2).look(1, LOOK_PRIMARY, row);
        }
    }

    private static void idleClient() {
        Run r = new Run("an idle client", 1, 3, 1, 16);
        isIdle(r);
        r.writeAll(1, 0, 5, 2, 0);
        isIdle(r);
        r.beginAndPrewrite(3, 0, 6, 2, 0);
        r.due(4).stamp(0);
        r.due(OK).abandon(0);
        isIdle(r);
        r.beginAndPrewrite(5, 0, 7, 2, 0);
        r.due(6).stamp(0);
        r.due(OK).crash(0);
        isIdle(r);
    }

    private static void isIdle(Run r) {
        r.same(PH_IDLE).phase(0);
        r.same(ABSENT).start(0);
        r.same(ABSENT).stampOf(0);
        r.same(ABSENT).primary(0);
        for (int row = 0; row < 3; row++) {
            r.same(ST_NONE).stage(0, row);
            r.same(NOT_PUT).value(0, row);
        }
    }

    private static void noneYet() {
        Run r = new Run("ABSENT if idle or none yet", 1, 2, 1, 8);
        r.due(1).begin(0);
        r.same(1).start(0);
        r.same(ABSENT).stampOf(0);
        r.same(ABSENT).primary(0);
        r.due(OK).put(0, 0, 5);
        r.same(ABSENT).primary(0);
        r.due(OK).prewrite(0, 0);
        r.same(ABSENT).stampOf(0);
        // Row 0 as primary is not the same as none.
        r.same(0).primary(0);
        r.due(2).stamp(0);
        r.same(2).stampOf(0);
        r.same(0).primary(0);
    }

    private static void valuePut() {
        Run r = new Run("the row's value put (-1 if that was put); NOT_PUT if the stage is ST_NONE", 1, 3, 1, 8);
        r.due(1).begin(0);
        r.same(NOT_PUT).value(0, 0);
        r.due(OK).put(0, 0, -1);
        r.same(-1).value(0, 0);
        r.due(OK).put(0, 1, 9999);
        r.same(9999).value(0, 1);
        r.same(NOT_PUT).value(0, 2);
        r.due(OK).prewrite(0, 0);
        r.same(-1).value(0, 0);
        r.due(OK).prewrite(0, 1);
        r.due(2).stamp(0);
        r.same(-1).value(0, 0);
        r.due(OK).commit(0, 0);
        r.same(-1).value(0, 0);
        r.same(ST_COMMITTED).stage(0, 0);
        r.same(9999).value(0, 1);
        r.same(ST_PREWRITTEN).stage(0, 1);
        r.same(NOT_PUT).value(0, 2);
    }

    private static void eachRowAndClient() {
        Run r = new Run("of its own transaction", 8, 8, 1, 8);
        for (int client = 0; client < 8; client++) {
            r.due(client + 1).begin(client);
            for (int row = 0; row < 8; row++) {
                if (row != client) {
                    r.due(OK).put(client, row, 10 * client + row);
                }
            }
        }
        for (int client = 0; client < 8; client++) {
            r.same(client + 1).start(client);
            for (int row = 0; row < 8; row++) {
                r.same(row == client ? ST_NONE : ST_PUT).stage(client, row);
                r.same(row == client ? NOT_PUT : 10 * client + row).value(client, row);
            }
        }
    }

    private static void rollBackDoesNotAlterThem() {
        Run r = new Run("a roll back by somebody else doesn't alter them", 2, 3, 1, 8);
        r.beginAndPrewrite(1, 0, 5, 2, 0);
        r.due(2).stamp(0);
        r.due(OK).tick(1);
        r.due(3).begin(1);
        r.turns(ABSENT, "holder 0: 1 > -1", "holder 2: 1 > -1", "lease 1: 0 > -1", "fate 1: 0 > -1").read(1, 0);
        r.same(PH_STAMPED).phase(0);
        r.same(1).start(0);
        r.same(2).stampOf(0);
        r.same(2).primary(0);
        r.same(ST_PREWRITTEN).stage(0, 0);
        r.same(ST_NONE).stage(0, 1);
        r.same(ST_PREWRITTEN).stage(0, 2);
        r.same(5).value(0, 2);
    }
}
