/** Promise 11: read. */
final class Promise11Test extends Names {
    public static void main(String[] args) {
        snapshot();
        ownPutsAreNotSeen();
        earlierHolderWithLease();
        earlierHolderWithoutLease();
        laterHolderIsLeftAlone();
        rolledBackReaderMakesNoDifference();
        refusals();
        Run.end();
    }

    private static void snapshot() {
        Run r = new Run("snapshot", 3, 3, 3, 16);
        r.due(1).begin(0);
        r.writeAll(2, 2, 20, 0);
        r.due(4).begin(1);
        r.writeAll(5, 2, 50, 0);
        r.same(ABSENT).read(0, 0);
        r.same(20).read(1, 0);
        r.same(ABSENT).read(1, 1);
        r.writeAll(7, 2, -1, 0);
        r.due(9).begin(2);
        r.same(ABSENT).read(2, 0);
        r.same(20).read(1, 0);
    }

    private static void ownPutsAreNotSeen() {
        Run r = new Run("own", 1, 3, 3, 8);
        r.writeAll(1, 0, 7, 0, 1);
        r.due(3).begin(0);
        r.due(OK).put(0, 0, 30);
        r.due(OK).put(0, 1, 31);
        r.same(7).read(0, 0);
        r.due(OK).prewrite(0, 0);
        r.same(7).read(0, 0);
        r.due(OK).prewrite(0, 1);
        r.due(OK).tick(3);
        // Its own hold without lease left is left alone too.
        r.same(7).read(0, 0);
        r.due(3).holder(0);
        r.due(4).stamp(0);
        r.same(7).read(0, 1);
        r.due(OK).commit(0, 0);
        r.same(7).read(0, 0);
        r.same(7).read(0, 1);
    }

    private static void earlierHolderWithLease() {
        Run r = new Run("locked", 3, 3, 2, 8);
        r.writeAll(1, 0, 7, 0);
        r.beginAndPrewrite(3, 0, 8, 0, 1);
        r.due(4).begin(1);
        r.same(LOCKED).read(1, 0);
        r.same(LOCKED).read(1, 1);
        r.same(ABSENT).read(1, 2);
        r.due(OK).tick(1);
        r.same(LOCKED).read(1, 0);
        r.due(5).stamp(0);
        r.same(LOCKED).read(1, 0);
        r.due(OK).commit(0, 0);
        r.same(7).read(1, 0);
        r.same(ABSENT).read(1, 1);
    }

    private static void earlierHolderWithoutLease() {
        Run r = new Run("rolled back", 3, 3, 2, 8);
        r.writeAll(1, 0, 7, 0);
        r.beginAndPrewrite(3, 0, 8, 2, 0, 1);
        r.due(4).begin(1);
        r.due(OK).tick(2);
        r.due(7).read(1, 0);
        r.due(ABSENT).fate(3);
        r.due(ABSENT).holder(0);
        r.due(ABSENT).holder(1);
        r.due(ABSENT).holder(2);
        r.due(PH_BUFFERING).phase(1);
        r.due(PH_PREWRITING).phase(0);
        r.due(8).value(0, 1);
        r.due(5).begin(2);
    }

    private static void laterHolderIsLeftAlone() {
        Run r = new Run("later", 3, 3, 2, 8);
        r.writeAll(1, 0, 7, 0);
        r.due(3).begin(1);
        r.beginAndPrewrite(4, 0, 8, 0);
        r.same(7).read(1, 0);
        r.due(OK).tick(2);
        r.same(7).read(1, 0);
        r.due(4).holder(0);
        r.due(PENDING).fate(4);
        r.due(5).stamp(0);
        r.due(OK).commit(0, 0);
        r.same(7).read(1, 0);
    }

    private static void rolledBackReaderMakesNoDifference() {
        Run r = new Run("reader rolled back", 3, 3, 1, 8);
        r.due(1).begin(0);
        r.due(OK).put(0, 1, 6);
        r.beginAndPrewrite(2, 1, 8, 0);
        r.due(OK).tick(1);
        r.beginAndPrewrite(3, 2, 9, 0);
        r.due(ABSENT).fate(2);
        // The later holder of the row that it once held itself.
        r.same(ABSENT).read(1, 0);
        r.due(OK).prewrite(0, 1);
        r.same(LOCKED).read(1, 1);
        r.due(OK).tick(1);
        r.due(ABSENT).read(1, 1);
        r.due(ABSENT).fate(1);
        r.due(PENDING).fate(3);
        r.due(PH_PREWRITING).phase(1);
    }

    private static void refusals() {
        Run r = new Run("refusals", 2, 3, 1, 8);
        r.same(BAD).read(2, 0);
        r.same(BAD).read(-1, 0);
        r.same(BAD).read(0, 3);
        r.same(BAD).read(0, -1);
        r.same(NO_TXN).read(0, 0);
        r.beginAndPrewrite(1, 0, 8, 0);
        r.due(OK).tick(1);
        // An idle reader rolls nobody back.
        r.same(NO_TXN).read(1, 0);
        r.same(BAD).read(0, 3);
        r.due(1).holder(0);
    }
}
