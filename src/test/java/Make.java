/** Paths and objects that several tests begin with. */
final class Make {
    static final int MADE = 1 << 21;
    static final int GONE = 2 << 21;
    static final int SET = 3 << 21;
    static final int CHILDREN = 4 << 21;

    private Make() {
    }

    /** The path with these names. */
    static int path(int... names) {
        int path = 0;
        for (int name : names) {
            path = path * 101 + name + 1;
        }
        return path;
    }

    /** An object with sessions 0 .. n - 1 open, each with the timeout 20. */
    static WatchTree withSessions(int n) {
        WatchTree x = new WatchTree();
        for (int i = 0; i < n; i++) {
            x.open(20);
        }
        return x;
    }

    /** An object with session 0 open and 40 transactions in the log. */
    static WatchTree withFullLog() {
        WatchTree x = withSessions(1);
        for (int i = 0; i < 39; i++) {
            x.set(0, 0, i, -1);
        }
        return x;
    }
}
