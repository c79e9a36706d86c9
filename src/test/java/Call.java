import java.util.Arrays;

/** One call with its arguments, so that a run can be told and played again. */
final class Call {
    private final String name;
    private final int[] args;

    Call(String name, int... args) {
        this.name = name;
        this.args = args;
    }

    String name() {
        return name;
    }

    int on(Face x) {
        switch (name) {
            case "begin": return x.begin(args[0]);
            case "put": return x.put(args[0], args[1], args[2]);
            case "prewrite": return x.prewrite(args[0], args[1]);
            case "stamp": return x.stamp(args[0]);
            case "commit": return x.commit(args[0], args[1]);
            case "heartbeat": return x.heartbeat(args[0]);
            case "abandon": return x.abandon(args[0]);
            case "crash": return x.crash(args[0]);
            case "tick": return x.tick(args[0]);
            case "read": return x.read(args[0], args[1]);
            case "peek": return x.peek(args[0], args[1]);
            case "versionTime": return x.versionTime(args[0], args[1]);
            case "holder": return x.holder(args[0]);
            case "leaseLeft": return x.leaseLeft(args[0]);
            case "fate": return x.fate(args[0]);
            case "look": return x.look(args[0], args[1], args[2]);
            default: throw new IllegalArgumentException(name);
        }
    }

    @Override public String toString() {
        return name + Arrays.toString(args);
    }
}
