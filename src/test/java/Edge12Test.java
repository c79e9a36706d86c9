/** The edges that promise 12 (peek and versionTime) names; each run is named after the words or the case that it tests. */
final class Edge12Test extends Names {
    private static final int[] BELOW = {LEAST, LEAST + 1, -65, -64, -2, -1, 0, 1};
    private static final int[] ABOVE = {65, 66, 127, 128, 129, 519, 520, 65536, MOST - 1, MOST};

    public static void main(String[] args) {
        rowOutOfRange();
        noVersionAtAll();
        anyTime();
        onePastTheLastTimestamp();
        timesOfAFullTable();
        versionOfNoValue();
        regardNoHolder();
        neverTheVersionOfAnotherRow();
        onlyWhenCommitted();
        Run.end();
    }

    private static void both(Run r, int row, int ts, int value, int time) {
        r.same(value).peek(row, ts);
        r.same(time).versionTime(row, ts);
    }

    private static void rowOutOfRange() {
        Run r = new Run("BAD: row out of range", 1, 3, 1, 8);
        r.writeAll(1, 0, 5, 0, 1, 2);
        for (int row : new int[] {LEAST, -8, -1, 3, 7, 8, 9, MOST}) {
            for (int ts : new int[] {LEAST, -1, 0, 2, 64, 65, MOST}) {
                both(r, row, ts, BAD, BAD);
            }
        }
    }

    private static void noVersionAtAll() {
        Run r = new Run("ABSENT if there is none", 1, 8, 1, 8);
        for (int row = 0; row < 8; row++) {
            for (int ts : BELOW) {
                both(r, row, ts, ABSENT, ABSENT);
            }
            for (int ts : ABOVE) {
                both(r, row, ts, ABSENT, ABSENT);
            }
        }
    }

    private static void anyTime() {
        Run r = new Run("ts may be any int", 1, 3, 1, 8);
        r.writeAll(1, 0, 5, 0);
        r.writeAll(3, 0, 6, 0, 1);
        for (int ts : BELOW) {
            both(r, 0, ts, ABSENT, ABSENT);
            both(r, 1, ts, ABSENT, ABSENT);
        }
        both(r, 0, 2, 5, 2);
        both(r, 0, 3, 5, 2);
        both(r, 0, 4, 6, 4);
        both(r, 0, 5, 6, 4);
        both(r, 1, 2, ABSENT, ABSENT);
        both(r, 1, 3, ABSENT, ABSENT);
        both(r, 1, 4, 6, 4);
        for (int ts : ABOVE) {
            both(r, 0, ts, 6, 4);
            both(r, 1, ts, 6, 4);
            both(r, 2, ts, ABSENT, ABSENT);
        }
    }

    private static void onePastTheLastTimestamp() {
        Run r = new Run("one past the last timestamp", 1, 2, 1, 32);
        for (int last = 2; last <= 64; last += 2) {
            r.writeAll(last - 1, 0, last, 1);
            r.due(last).peek(1, last);
            r.due(last).peek(1, last + 1);
            r.due(last).peek(1, MOST);
            r.due(last).versionTime(1, last);
            r.due(last).versionTime(1, last + 1);
            r.due(last).versionTime(1, MOST);
            r.due(last == 2 ? ABSENT : last - 2).peek(1, last - 1);
            r.due(last == 2 ? ABSENT : last - 2).versionTime(1, last - 1);
        }
    }

    /** All eight rows have a version at every second timestamp, up to the last. */
    private static void timesOfAFullTable() {
        Run r = new Run("the greatest commit timestamp that is ts or below", 1, 8, 1, 32);
        for (int start = 1; start < 64; start += 2) {
            r.writeAll(start, 0, start, 0, 1, 2, 3, 4, 5, 6, 7);
        }
        for (int row = 0; row < 8; row++) {
            for (int ts = 2; ts <= 64; ts++) {
                int time = ts / 2 * 2;
                r.due(time - 1).peek(row, ts);
                r.due(time).versionTime(row, ts);
            }
            for (int ts : BELOW) {
                both(r, row, ts, ABSENT, ABSENT);
            }
            for (int ts : ABOVE) {
                both(r, row, ts, 63, 64);
            }
        }
    }

    private static void versionOfNoValue() {
        Run r = new Run("A version whose value is -1 is a version like any other", 1, 2, 1, 8);
        r.writeAll(1, 0, -1, 0);
        both(r, 0, 1, ABSENT, ABSENT);
        both(r, 0, 2, ABSENT, 2);
        both(r, 0, MOST, ABSENT, 2);
        r.writeAll(3, 0, 0, 0);
        both(r, 0, 3, ABSENT, 2);
        both(r, 0, 4, 0, 4);
        r.writeAll(5, 0, -1, 0);
        both(r, 0, 5, 0, 4);
        both(r, 0, 6, ABSENT, 6);
        both(r, 0, 65, ABSENT, 6);
    }

    private static void regardNoHolder() {
        Run r = new Run("Both change nothing and regard no holder", 2, 2, 1, 8);
        r.writeAll(1, 0, 5, 0);
        r.beginAndPrewrite(3, 0, 6, 0, 1);
        both(r, 0, MOST, 5, 2);
        both(r, 1, MOST, ABSENT, ABSENT);
        r.due(OK).tick(1);
        both(r, 0, MOST, 5, 2);
        both(r, 0, 3, 5, 2);
        both(r, 1, MOST, ABSENT, ABSENT);
        r.due(3).holder(0);
        r.due(PENDING).fate(3);
    }

    private static void neverTheVersionOfAnotherRow() {
        for (int row = 0; row < 8; row++) {
            Run r = new Run("the row's version", 1, 8, 1, 32);
            for (int start = 1; start < 63; start += 2) {
                r.due(start).begin(0);
                r.due(OK).put(0, (row + 1) % 8, 4);
                r.due(OK).prewrite(0, (row + 1) % 8);
                r.due(start + 1).stamp(0);
                r.due(OK).abandon(0);
            }
            r.writeAll(63, 0, 5, row);
            for (int other = 0; other < 8; other++) {
                both(r, other, 64, other == row ? 5 : ABSENT, other == row ? 64 : ABSENT);
                both(r, other, 63, ABSENT, ABSENT);
                both(r, other, MOST, other == row ? 5 : ABSENT, other == row ? 64 : ABSENT);
            }
        }
    }

    private static void onlyWhenCommitted() {
        Run r = new Run("no version before the commit of the primary", 2, 3, 1, 8);
        r.beginAndPrewrite(1, 0, 5, 0, 1);
        both(r, 1, MOST, ABSENT, ABSENT);
        r.due(2).stamp(0);
        both(r, 1, 2, ABSENT, ABSENT);
        r.writeAll(3, 1, 6, 2);
        both(r, 1, MOST, ABSENT, ABSENT);
        r.due(OK).commit(0, 0);
        both(r, 1, MOST, 5, 2);
    }
}
