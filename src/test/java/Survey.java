/** All that the calls which change nothing can show of an object, as one row of answers. */
final class Survey {
    private static final int MAX_CLIENTS = 8;
    private static final int MAX_ROWS = 8;
    private static final int MAX_TIME = 64;

    private Survey() { }

    static int[] of(Face x) {
        int[] answers = new int[MAX_CLIENTS * (4 + 2 * MAX_ROWS)
                + MAX_ROWS * (1 + 2 * (MAX_TIME + 2)) + 2 * (MAX_TIME + 2)];
        int at = 0;
        for (int client = 0; client < MAX_CLIENTS; client++) {
            for (int what = PrimaryLockTxn.LOOK_PHASE; what <= PrimaryLockTxn.LOOK_PRIMARY; what++) {
                answers[at++] = x.look(client, what, 0);
            }
            for (int row = 0; row < MAX_ROWS; row++) {
                answers[at++] = x.look(client, PrimaryLockTxn.LOOK_STAGE, row);
                answers[at++] = x.look(client, PrimaryLockTxn.LOOK_VALUE, row);
            }
        }
        for (int row = 0; row < MAX_ROWS; row++) {
            answers[at++] = x.holder(row);
            for (int ts = 0; ts <= MAX_TIME + 1; ts++) {
                answers[at++] = x.peek(row, ts);
                answers[at++] = x.versionTime(row, ts);
            }
        }
        for (int start = 0; start <= MAX_TIME + 1; start++) {
            answers[at++] = x.leaseLeft(start);
            answers[at++] = x.fate(start);
        }
        return answers;
    }
}
