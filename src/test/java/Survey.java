import java.util.ArrayList;
import java.util.List;
import java.util.Set;
import java.util.TreeSet;

/** All that the calls which change nothing can show of an object, as one row of answers. */
final class Survey {
    private static final int MAX_CLIENTS = 8;
    private static final int MAX_ROWS = 8;
    private static final int MAX_TIME = 64;
    /** Stands where a row has no version at a time: no value put can be this number. */
    private static final int NO_VERSION = -99;
    private static final String[] PARTS = {"phase", "start", "stamp", "primary"};
    private static final List<String> LABELS = labels();

    private Survey() { }

    static int[] of(Face x) {
        int[] answers = new int[LABELS.size()];
        int at = 0;
        for (int client = 0; client < MAX_CLIENTS; client++) {
            for (int what = 0; what < PARTS.length; what++) {
                answers[at++] = x.look(client, what, 0);
            }
            for (int row = 0; row < MAX_ROWS; row++) {
                answers[at++] = x.look(client, PrimaryLockTxn.LOOK_STAGE, row);
                answers[at++] = x.look(client, PrimaryLockTxn.LOOK_VALUE, row);
            }
        }
        for (int row = 0; row < MAX_ROWS; row++) {
            answers[at++] = x.holder(row);
            at = versions(x, row, answers, at);
        }
        for (int start = 0; start <= MAX_TIME + 1; start++) {
            answers[at++] = x.leaseLeft(start);
            answers[at++] = x.fate(start);
        }
        return answers;
    }

    /** The versions of a row by commit timestamp, and how often the times between answer otherwise. */
    private static int versions(Face x, int row, int[] answers, int from) {
        int at = from;
        int none = x.versionTime(row, 0);
        int newest = none;
        int value = x.peek(row, 0);
        int odd = 0;
        for (int ts = 0; ts <= MAX_TIME + 1; ts++) {
            boolean here = x.versionTime(row, ts) == ts;
            if (here) {
                newest = ts;
                value = x.peek(row, ts);
            }
            odd += x.versionTime(row, ts) == newest && x.peek(row, ts) == value ? 0 : 1;
            answers[at++] = here ? value : NO_VERSION;
        }
        answers[at++] = odd;
        return at;
    }

    private static List<String> labels() {
        List<String> labels = new ArrayList<>();
        for (int client = 0; client < MAX_CLIENTS; client++) {
            for (String part : PARTS) {
                labels.add(part + " " + client);
            }
            for (int row = 0; row < MAX_ROWS; row++) {
                labels.add("stage " + client + "." + row);
                labels.add("value " + client + "." + row);
            }
        }
        for (int row = 0; row < MAX_ROWS; row++) {
            labels.add("holder " + row);
            for (int ts = 0; ts <= MAX_TIME + 1; ts++) {
                labels.add("version " + row + "@" + ts);
            }
            labels.add("odd times of " + row);
        }
        for (int start = 0; start <= MAX_TIME + 1; start++) {
            labels.add("lease " + start);
            labels.add("fate " + start);
        }
        return labels;
    }

    /** What differs, each as "phase 0: 1 > 2" or "version 1@4: none > 50". */
    static Set<String> changes(int[] before, int[] after) {
        Set<String> changes = new TreeSet<>();
        for (int i = 0; i < before.length; i++) {
            if (before[i] != after[i]) {
                changes.add(LABELS.get(i) + ": " + text(before[i]) + " > " + text(after[i]));
            }
        }
        return changes;
    }

    private static String text(int answer) {
        return answer == NO_VERSION ? "none" : String.valueOf(answer);
    }
}
