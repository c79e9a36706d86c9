/**
 * Every call of a client in every phase: "In every call the conditions apply in the order given;
 * the first that applies gives the answer. Unless said otherwise, a call that answers a refusal
 * changes nothing."
 */
final class PhaseTableTest extends Names {
    private static final String[] SCENES = {
        "idle", "buffering", "prewriting", "prewriting, rolled back", "stamped", "stamped, rolled back", "committed"};
    private static final int NEXT = 100;
    private static final int[] NO_CLIENT = {LEAST, -1, 3, 7, 8, MOST};
    private static final int[] NO_ROW = {LEAST, -1, 4, 7, 8, MOST};
    private static final int[] NO_VALUE = {LEAST, -2, 10000, MOST};

    /** Client 1 has put rows 0 and 1, row 1 is its primary, row 2 isn't put, row 3 is held by another. */
    private static Run scene(int scene) {
        Run r = new Run(SCENES[scene], 3, 4, 3, 16);
        r.writeAll(1, 2, 50, 0);
        r.beginAndPrewrite(3, 0, 60, 3);
        r.due(OK).tick(1);
        if (scene == 0) {
            return r;
        }
        r.beginAndPut(4, 1, 70, 0, 1);
        if (scene == 1) {
            return r;
        }
        r.due(OK).prewrite(1, 1);
        if (scene > 3) {
            r.due(OK).prewrite(1, 0);
            r.due(5).stamp(1);
        }
        if (scene == 6) {
            r.due(OK).commit(1, 1);
        }
        if (scene == 3 || scene == 5) {
            r.due(OK).tick(3);
            r.due(OK).heartbeat(0);
            r.due(scene == 3 ? 5 : 6).begin(2);
            r.due(ABSENT).read(2, 1);
            r.due(ABSENT).fate(4);
        }
        return r;
    }

    /** The answer due in each scene, in the order of SCENES; NEXT stands for the next timestamp. */
    private static void table(String call, int[] args, int... dues) {
        for (int scene = 0; scene < SCENES.length; scene++) {
            Run r = scene(scene);
            int due = dues[scene] == NEXT ? 4 : dues[scene];
            boolean idles = due == GONE && !call.equals("heartbeat");
            boolean refusal = due < ABSENT && !idles;
            play(refusal || call.equals("read") ? r.same(due) : r.due(due), call, args);
            if (idles) {
                r.due(PH_IDLE).phase(args[0]);
            }
        }
    }

    private static void play(Run r, String call, int... args) {
        switch (call) {
            case "begin": r.begin(args[0]); break;
            case "put": r.put(args[0], args[1], args[2]); break;
            case "prewrite": r.prewrite(args[0], args[1]); break;
            case "stamp": r.stamp(args[0]); break;
            case "commit": r.commit(args[0], args[1]); break;
            case "heartbeat": r.heartbeat(args[0]); break;
            case "abandon": r.abandon(args[0]); break;
            case "crash": r.crash(args[0]); break;
            case "read": r.read(args[0], args[1]); break;
            default: throw new IllegalArgumentException(call);
        }
    }

    private static int[] of(int... args) {
        return args;
    }

    public static void main(String[] args) {
        begins();
        writes();
        commits();
        ends();
        reads();
        for (int scene = 0; scene < SCENES.length; scene++) {
            wrongClients(scene);
            wrongRows(scene);
            wrongValues(scene);
        }
        Run.end();
    }

    private static void begins() {
        table("begin", of(1), NEXT, BUSY, BUSY, BUSY, BUSY, BUSY, BUSY);
        table("stamp", of(1), NO_TXN, NOT_NOW, NOT_NOW, NOT_NOW, NOT_NOW, NOT_NOW, NOT_NOW);
    }

    private static void writes() {
        for (int row = 0; row < 4; row++) {
            table("put", of(1, row, 9), NO_TXN, OK, NOT_NOW, NOT_NOW, NOT_NOW, NOT_NOW, NOT_NOW);
        }
        table("prewrite", of(1, 0), NO_TXN, OK, OK, OK, NOT_NOW, NOT_NOW, NOT_NOW);
        table("prewrite", of(1, 1), NO_TXN, OK, ALREADY, ALREADY, NOT_NOW, NOT_NOW, NOT_NOW);
        table("prewrite", of(1, 2), NO_TXN, NOT_PUT, NOT_PUT, NOT_PUT, NOT_NOW, NOT_NOW, NOT_NOW);
        table("prewrite", of(1, 3), NO_TXN, NOT_PUT, NOT_PUT, NOT_PUT, NOT_NOW, NOT_NOW, NOT_NOW);
    }

    private static void commits() {
        table("commit", of(1, 0), NO_TXN, NOT_NOW, NOT_NOW, NOT_NOW, NOT_NOW, NOT_NOW, OK);
        table("commit", of(1, 1), NO_TXN, NOT_NOW, NOT_NOW, NOT_NOW, OK, GONE, ALREADY);
        table("commit", of(1, 2), NO_TXN, NOT_NOW, NOT_NOW, NOT_NOW, NOT_PUT, NOT_PUT, NOT_PUT);
        table("commit", of(1, 3), NO_TXN, NOT_NOW, NOT_NOW, NOT_NOW, NOT_PUT, NOT_PUT, NOT_PUT);
    }

    private static void ends() {
        table("heartbeat", of(1), NO_TXN, NOT_NOW, OK, GONE, OK, GONE, NOT_NOW);
        table("abandon", of(1), NO_TXN, OK, OK, GONE, OK, GONE, NOT_NOW);
        table("crash", of(1), NO_TXN, OK, OK, OK, OK, OK, OK);
    }

    private static void reads() {
        table("read", of(1, 0), NO_TXN, 50, 50, 50, 50, 50, 50);
        table("read", of(1, 1), NO_TXN, ABSENT, ABSENT, ABSENT, ABSENT, ABSENT, ABSENT);
        table("read", of(1, 2), NO_TXN, ABSENT, ABSENT, ABSENT, ABSENT, ABSENT, ABSENT);
        table("read", of(1, 3), NO_TXN, LOCKED, LOCKED, LOCKED, LOCKED, LOCKED, LOCKED);
    }

    private static void wrongClients(int scene) {
        Run r = scene(scene);
        for (int client : NO_CLIENT) {
            for (String call : new String[] {"begin", "stamp", "heartbeat", "abandon", "crash"}) {
                play(r.same(BAD), call, client);
            }
            for (int row : new int[] {0, 1, 2, 3, 4}) {
                play(r.same(BAD), "put", client, row, 9);
                play(r.same(BAD), "prewrite", client, row);
                play(r.same(BAD), "commit", client, row);
                play(r.same(BAD), "read", client, row);
            }
        }
    }

    private static void wrongRows(int scene) {
        Run r = scene(scene);
        for (int row : NO_ROW) {
            for (int client : new int[] {0, 1, 2, -1}) {
                play(r.same(BAD), "put", client, row, 9);
                play(r.same(BAD), "prewrite", client, row);
                play(r.same(BAD), "commit", client, row);
                play(r.same(BAD), "read", client, row);
            }
        }
    }

    private static void wrongValues(int scene) {
        Run r = scene(scene);
        for (int value : NO_VALUE) {
            for (int row = -1; row <= 4; row++) {
                play(r.same(BAD), "put", 1, row, value);
                play(r.same(BAD), "put", 3, row, value);
            }
        }
    }
}
