/** Promise 16: look. */
final class Promise16Test extends Names {
    public static void main(String[] args) {
        wrongInputs();
        rowIsIgnored();
        throughAllPhases();
        unalteredByARollBack();
        Run.end();
    }

    private static void wrongInputs() {
        Run r = new Run("wrong", 2, 3, 2, 8);
        r.due(1).begin(1);
        for (int client : new int[] {-1, 2, 8, LEAST, MOST}) {
            for (int what = LOOK_PHASE; what <= LOOK_VALUE; what++) {
                r.same(BAD).look(client, what, 0);
            }
        }
        for (int what : new int[] {-1, 6, LEAST, MOST}) {
            r.same(BAD).look(0, what, 0);
            r.same(BAD).look(1, what, 0);
        }
        for (int row : new int[] {-1, 3, 8, LEAST, MOST}) {
            r.same(BAD).look(0, LOOK_STAGE, row);
            r.same(BAD).look(0, LOOK_VALUE, row);
            r.same(BAD).look(1, LOOK_STAGE, row);
            r.same(BAD).look(1, LOOK_VALUE, row);
        }
    }

    private static void rowIsIgnored() {
        Run r = new Run("ignored", 1, 3, 2, 8);
        r.beginAndPrewrite(1, 0, 5, 2);
        r.due(2).stamp(0);
        for (int row : new int[] {-1, 0, 2, 3, 8, LEAST, MOST}) {
            r.same(PH_STAMPED).look(0, LOOK_PHASE, row);
            r.same(1).look(0, LOOK_START, row);
            r.same(2).look(0, LOOK_STAMP, row);
            r.same(2).look(0, LOOK_PRIMARY, row);
        }
    }

    private static void throughAllPhases() {
        Run r = new Run("phases", 2, 3, 2, 8);
        client(r, PH_IDLE, ABSENT, ABSENT, ABSENT);
        rows(r, ST_NONE, ST_NONE, NOT_PUT, NOT_PUT);
        r.due(1).begin(0);
        r.due(2).begin(1);
        client(r, PH_BUFFERING, 2, ABSENT, ABSENT);
        rows(r, ST_NONE, ST_NONE, NOT_PUT, NOT_PUT);
        r.due(OK).put(1, 0, -1);
        r.due(OK).put(1, 2, 0);
        client(r, PH_BUFFERING, 2, ABSENT, ABSENT);
        rows(r, ST_PUT, ST_PUT, -1, 0);
        r.due(OK).prewrite(1, 0);
        client(r, PH_PREWRITING, 2, ABSENT, 0);
        rows(r, ST_PREWRITTEN, ST_PUT, -1, 0);
        r.due(OK).prewrite(1, 2);
        r.due(3).stamp(1);
        client(r, PH_STAMPED, 2, 3, 0);
        rows(r, ST_PREWRITTEN, ST_PREWRITTEN, -1, 0);
        r.due(OK).commit(1, 0);
        client(r, PH_COMMITTED, 2, 3, 0);
        rows(r, ST_COMMITTED, ST_PREWRITTEN, -1, 0);
        r.due(OK).commit(1, 2);
        client(r, PH_IDLE, ABSENT, ABSENT, ABSENT);
        rows(r, ST_NONE, ST_NONE, NOT_PUT, NOT_PUT);
        r.same(PH_BUFFERING).phase(0);
        r.same(1).look(0, LOOK_START, 0);
    }

    private static void client(Run r, int phase, int start, int stamp, int primary) {
        r.same(phase).phase(1);
        r.same(start).look(1, LOOK_START, 0);
        r.same(stamp).look(1, LOOK_STAMP, 0);
        r.same(primary).look(1, LOOK_PRIMARY, 0);
    }

    /** Stages and values of rows 0 and 2; row 1 is never put. */
    private static void rows(Run r, int stage0, int stage2, int value0, int value2) {
        r.same(stage0).stage(1, 0);
        r.same(ST_NONE).stage(1, 1);
        r.same(stage2).stage(1, 2);
        r.same(value0).value(1, 0);
        r.same(NOT_PUT).value(1, 1);
        r.same(value2).value(1, 2);
    }

    private static void unalteredByARollBack() {
        Run r = new Run("roll back", 2, 3, 1, 8);
        r.due(1).begin(1);
        r.due(OK).put(1, 0, 40);
        r.due(OK).put(1, 2, 42);
        r.due(OK).prewrite(1, 2);
        r.due(OK).tick(1);
        r.beginAndPrewrite(2, 0, 7, 2);
        r.due(ABSENT).fate(1);
        client(r, PH_PREWRITING, 1, ABSENT, 2);
        rows(r, ST_PUT, ST_PREWRITTEN, 40, 42);
    }
}
