/** Promise 15: fate. */
final class Promise15Test extends Names {
    public static void main(String[] args) {
        ofACommit();
        ofRollBacks();
        ofNoTransaction();
        Run.end();
    }

    private static void ofACommit() {
        Run r = new Run("commit", 2, 3, 4, 8);
        r.due(1).begin(0);
        r.same(ABSENT).fate(1);
        r.due(OK).put(0, 0, 5);
        r.due(OK).put(0, 1, 5);
        r.same(ABSENT).fate(1);
        r.due(OK).prewrite(0, 0);
        r.same(PENDING).fate(1);
        r.due(OK).prewrite(0, 1);
        r.due(2).begin(1);
        r.due(3).stamp(0);
        // The stamp is drawn, but not committed at.
        r.same(PENDING).fate(1);
        r.due(OK).tick(4);
        r.same(PENDING).fate(1);
        r.due(OK).commit(0, 0);
        r.same(3).fate(1);
        r.due(OK).commit(0, 1);
        r.same(3).fate(1);
        // The stamp itself names no transaction.
        r.same(ABSENT).fate(3);
        r.same(ABSENT).fate(2);
        r.due(4).begin(0);
        r.due(OK).crash(0);
        r.same(3).fate(1);
    }

    private static void ofRollBacks() {
        Run r = new Run("roll back", 3, 3, 1, 8);
        r.beginAndPrewrite(1, 0, 5, 0);
        r.due(OK).abandon(0);
        r.same(ABSENT).fate(1);
        r.beginAndPrewrite(2, 0, 5, 0);
        r.due(OK).crash(0);
        r.same(PENDING).fate(2);
        r.due(OK).tick(1);
        r.same(PENDING).fate(2);
        r.beginAndPrewrite(3, 0, 6, 0);
        r.same(ABSENT).fate(2);
        r.same(PENDING).fate(3);
        r.due(OK).tick(1);
        r.due(4).begin(1);
        r.due(ABSENT).read(1, 0);
        r.same(ABSENT).fate(3);
        r.due(5).stamp(0);
        r.same(ABSENT).fate(3);
        r.due(GONE).commit(0, 0);
        r.same(ABSENT).fate(3);
    }

    private static void ofNoTransaction() {
        Run r = new Run("none", 1, 3, 1, 8);
        r.writeAll(1, 0, 5, 0);
        for (int start = -2; start <= 70; start++) {
            r.same(start == 1 ? 2 : ABSENT).fate(start);
        }
        r.same(ABSENT).fate(Integer.MIN_VALUE);
        r.same(ABSENT).fate(Integer.MAX_VALUE);
    }
}
