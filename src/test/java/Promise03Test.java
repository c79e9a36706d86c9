/** Promise 3: put. */
final class Promise03Test extends Names {
    public static void main(String[] args) {
        replacesAValue();
        edgesOfTheValue();
        wrongPhases();
        orderOfConditions();
        holdersAndVersionsAreNotRegarded();
        Run.end();
    }

    private static void replacesAValue() {
        Run r = new Run("replace", 2, 3, 2, 8);
        r.due(1).begin(0);
        r.due(2).begin(1);
        r.due(OK).put(0, 1, 10);
        r.due(ST_PUT).stage(0, 1);
        r.due(10).value(0, 1);
        r.due(OK).put(0, 1, 11);
        r.due(ST_PUT).stage(0, 1);
        r.due(11).value(0, 1);
        r.due(ST_NONE).stage(0, 0);
        r.due(ST_NONE).stage(0, 2);
        r.due(ST_NONE).stage(1, 1);
        r.due(PH_BUFFERING).phase(0);
        r.due(ABSENT).fate(1);
        r.due(ABSENT).holder(1);
        r.due(OK).prewrite(0, 1);
        r.due(3).stamp(0);
        r.due(OK).commit(0, 1);
        r.due(11).peek(1, 3);
    }

    private static void edgesOfTheValue() {
        Run r = new Run("value", 1, 2, 2, 8);
        r.due(1).begin(0);
        for (int value : new int[] {-1, 0, 1, 9998, 9999}) {
            r.due(OK).put(0, 0, value);
            r.due(value).value(0, 0);
        }
        for (int value : new int[] {-2, 10000, Integer.MIN_VALUE, Integer.MAX_VALUE}) {
            r.same(BAD).put(0, 0, value);
            r.same(BAD).put(0, 1, value);
        }
    }

    private static void wrongPhases() {
        Run r = new Run("phases", 1, 3, 2, 8);
        r.same(NO_TXN).put(0, 0, 1);
        r.due(1).begin(0);
        r.due(OK).put(0, 0, 1);
        r.due(OK).put(0, 1, 1);
        r.due(OK).prewrite(0, 0);
        for (int row = 0; row < 3; row++) {
            r.same(NOT_NOW).put(0, row, 2);
        }
        r.due(OK).prewrite(0, 1);
        r.due(2).stamp(0);
        r.same(NOT_NOW).put(0, 2, 2);
        r.due(OK).commit(0, 0);
        r.same(NOT_NOW).put(0, 2, 2);
        r.same(NOT_NOW).put(0, 1, 2);
        r.due(OK).commit(0, 1);
        r.same(NO_TXN).put(0, 1, 2);
    }

    private static void orderOfConditions() {
        Run r = new Run("order", 1, 2, 2, 8);
        r.same(BAD).put(-1, 0, 1);
        r.same(BAD).put(1, 0, 1);
        r.same(BAD).put(0, -1, 1);
        r.same(BAD).put(0, 2, 1);
        r.same(BAD).put(0, 0, -2);
        r.beginAndPrewrite(1, 0, 1, 0);
        r.same(BAD).put(0, 2, 1);
        r.same(BAD).put(0, 1, 10000);
    }

    private static void holdersAndVersionsAreNotRegarded() {
        Run r = new Run("not regarded", 3, 2, 2, 8);
        r.due(1).begin(0);
        r.writeAll(2, 1, 20, 0);
        r.beginAndPrewrite(4, 1, 30, 1);
        r.due(OK).put(0, 0, 1);
        r.due(OK).put(0, 1, 2);
        r.due(4).holder(1);
        r.due(2).leaseLeft(4);
        r.due(20).peek(0, 9);
        // Not even a holder without lease left is rolled back by a put.
        r.due(OK).tick(2);
        r.due(OK).put(0, 1, 3);
        r.due(4).holder(1);
        r.due(PENDING).fate(4);
    }
}
