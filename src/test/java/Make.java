/** Paths, numbers and objects that several tests begin with. */
final class Make {
    static final int MADE = 1 << 21;
    static final int GONE = 2 << 21;
    static final int SET = 3 << 21;
    static final int CHILDREN = 4 << 21;

    private static final int[] NO_PATHS = {Integer.MIN_VALUE, Integer.MIN_VALUE + 1, -1030300, -102, -101, -100, -1,
        101, 202, 10100, 10201, 10202, 10300, 10301, 10302, 1020100, 1020200, 1030200, 1030301, 1030302, 1040604,
        Integer.MAX_VALUE - 1, Integer.MAX_VALUE};

    private Make() {
    }

    /** The path with these names. */
    static int path(int... names) {
        int path = 0;
        for (int name : names) {
            path = path * 101 + name + 1;
        }
        return path;
    }

    /** Ints that are no path: below 0, with a digit 0 at each place, with four digits, and the ends. */
    static int[] noPaths() {
        return NO_PATHS.clone();
    }

    /** The ints next to low .. high on both sides, and the ends of all ints. */
    static int[] outside(int low, int high) {
        return new int[] {Integer.MIN_VALUE, Integer.MIN_VALUE + 1, low - 1, high + 1, Integer.MAX_VALUE - 1,
            Integer.MAX_VALUE};
    }

    /** An object with sessions 0 .. n - 1 open, each with the timeout 20. */
    static WatchTree withSessions(int n) {
        WatchTree x = new WatchTree();
        for (int i = 0; i < n; i++) {
            x.open(20);
        }
        return x;
    }

    /** An object with session 0 open and 40 transactions in the log. */
    static WatchTree withFullLog() {
        WatchTree x = withSessions(1);
        fillLog(x, 40);
        return x;
    }

    /** Session 0 sets the root, to 0, 1, .., until so many are in the log. */
    static void fillLog(WatchTree x, int logged) {
        int missing = logged - x.logged();
        for (int i = 0; i < missing; i++) {
            x.set(0, 0, i, -1);
        }
    }

    /** An object with session 0 open and the nodes 1 .. n below the root, none owned. */
    static WatchTree withNodes(int n) {
        WatchTree x = withSessions(1);
        for (int i = 1; i <= n; i++) {
            x.create(0, i, 0, 0);
        }
        return x;
    }

    /**
     * Session 0 makes and removes the node in turn until the child version of its parent is this;
     * the node must not be there before. Snapshots keep the log from being full.
     */
    static void growChildVersion(WatchTree x, int node, int childVersion) {
        boolean isThere = false;
        for (long i = x.node(node / 101, 2); i < childVersion; i++) {
            if (isThere) {
                x.remove(0, node, -1);
            } else {
                x.create(0, node, 0, 0);
            }
            isThere = !isThere;
            if (i % 16 == 0) {
                x.save(24);
            }
        }
    }
}
