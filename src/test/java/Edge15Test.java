/** The edges that promise 15 (fate) names; each run is named after the words or the case that it tests. */
final class Edge15Test extends Names {
    private static final int[] FAR = {LEAST, LEAST + 1, -65, -64, -1, 0, 64, 65, 66, 128, 65536, 65537, MOST - 1, MOST};

    public static void main(String[] args) {
        anyInt();
        onePastTheLast();
        unborn();
        pendingWhateverItsLeaseLeft();
        rolledBackInEachWay();
        stampNotYetCommittedAt();
        stampIsNoStart();
        latestStart();
        Run.end();
    }

    private static void anyInt() {
        Run r = new Run("start may be any int", 2, 2, 5, 8);
        for (int start : FAR) {
            r.same(ABSENT).fate(start);
        }
        r.writeAll(1, 0, 5, 0);
        r.beginAndPrewrite(3, 0, 5, 0);
        for (int start : FAR) {
            r.same(ABSENT).fate(start);
        }
        r.same(2).fate(1);
        r.same(PENDING).fate(3);
    }

    private static void onePastTheLast() {
        Run r = new Run("ABSENT if there is none", 2, 2, 5, 8);
        r.beginAndPrewrite(1, 0, 5, 0);
        r.beginAndPrewrite(2, 1, 5, 1);
        r.same(ABSENT).fate(0);
        r.same(PENDING).fate(1);
        r.same(PENDING).fate(2);
        r.same(ABSENT).fate(3);
    }

    private static void unborn() {
        Run r = new Run("ABSENT if it is UNBORN", 2, 2, 5, 8);
        r.due(1).begin(0);
        r.same(ABSENT).fate(1);
        r.due(OK).put(0, 0, 5);
        r.same(ABSENT).fate(1);
        r.beginAndPrewrite(2, 1, 6, 0);
        r.same(LOCKED).prewrite(0, 0);
        r.same(ABSENT).fate(1);
        r.due(OK).crash(0);
        r.same(ABSENT).fate(1);
    }

    private static void pendingWhateverItsLeaseLeft() {
        Run r = new Run("PENDING (0) if PENDING", 1, 2, 2, 8);
        r.beginAndPrewrite(1, 0, 5, 0);
        for (int left : new int[] {2, 1, 0, 0}) {
            r.due(left).leaseLeft(1);
            r.same(PENDING).fate(1);
            r.due(OK).tick(1);
        }
        r.due(OK).crash(0);
        r.same(PENDING).fate(1);
    }

    /** By its owner, by a reader, by a writer, and by a writer that is refused. */
    private static void rolledBackInEachWay() {
        for (int way = 0; way < 4; way++) {
            Run r = new Run("ABSENT if it is ROLLED BACK, way " + way, 3, 2, 1, 8);
            r.beginAndPut(1, 2, 4, 1);
            r.writeAll(2, 1, 5, 1);
            r.beginAndPrewrite(4, 0, 6, 0, 1);
            r.due(OK).tick(1);
            r.same(PENDING).fate(4);
            if (way == 0) {
                r.due(OK).abandon(0);
            } else if (way == 1) {
                r.due(5).begin(1);
                r.due(5).read(1, 1);
            } else if (way == 2) {
                r.beginAndPrewrite(5, 1, 7, 1);
            } else {
                r.due(CONFLICT).prewrite(2, 1);
            }
            r.same(ABSENT).fate(4);
            r.same(3).fate(2);
            r.same(ABSENT).fate(1);
        }
    }

    private static void stampNotYetCommittedAt() {
        Run r = new Run("A stamp drawn but not yet committed at is not answered here", 2, 2, 1, 8);
        r.beginAndPrewrite(1, 0, 5, 0, 1);
        r.due(2).stamp(0);
        r.same(PENDING).fate(1);
        r.same(NOT_NOW).commit(0, 1);
        r.same(PENDING).fate(1);
        r.due(OK).tick(1);
        r.same(PENDING).fate(1);
        r.due(3).begin(1);
        r.due(ABSENT).read(1, 0);
        r.same(ABSENT).fate(1);
        r.due(2).stampOf(0);
        r.due(GONE).commit(0, 0);
        r.same(ABSENT).fate(1);
        r.beginAndPrewrite(4, 0, 5, 0);
        r.due(5).stamp(0);
        r.due(OK).crash(0);
        r.same(PENDING).fate(4);
    }

    private static void stampIsNoStart() {
        Run r = new Run("the transaction with this start timestamp", 2, 2, 3, 8);
        r.beginAndPrewrite(1, 0, 5, 0);
        r.due(2).stamp(0);
        r.same(ABSENT).fate(2);
        r.due(OK).commit(0, 0);
        r.same(2).fate(1);
        r.same(ABSENT).fate(2);
        r.beginAndPrewrite(3, 0, 5, 0);
        r.beginAndPrewrite(4, 1, 5, 1);
        r.due(5).stamp(1);
        r.due(6).stamp(0);
        r.due(OK).commit(0, 0);
        r.due(OK).commit(1, 1);
        r.same(6).fate(3);
        r.same(5).fate(4);
        r.same(ABSENT).fate(5);
        r.same(ABSENT).fate(6);
    }

    private static void latestStart() {
        Run r = new Run("the greatest start timestamp and the greatest stamp", 1, 2, 7, 32);
        for (int start = 1; start < 63; start += 2) {
            r.writeAll(start, 0, 5, 0);
        }
        r.beginAndPrewrite(63, 0, 5, 0);
        r.same(PENDING).fate(63);
        r.due(64).stamp(0);
        r.due(OK).commit(0, 0);
        for (int start = 1; start <= 64; start++) {
            r.same(start % 2 == 1 ? start + 1 : ABSENT).fate(start);
        }
    }
}
