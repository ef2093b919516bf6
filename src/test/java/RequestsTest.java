/** Promises 6 to 8, with what 23 says of them: create, set, remove. */
public final class RequestsTest {
    private static final Due due = new Due();
    private static final int[] NOT_OPEN = {-1, 2, 3, 4, Integer.MIN_VALUE, Integer.MAX_VALUE};
    private static final int[] NO_PATHS = {-1, 101, 202, 10201, 10202, 10300, 10301, 1030301, 1030302,
        Integer.MIN_VALUE, Integer.MAX_VALUE};

    public static void main(String[] args) {
        create();
        createWrong();
        createNumbered();
        createFull();
        createOrderOfWrongs();
        set();
        setWrong();
        remove();
        removeWrong();
        refusedBeforeLogFullBeforeWrong();
        due.end();
    }

    private static void create() {
        WatchTree x = Make.withSessions(2);
        due.is(6, "create a", x.create(0, 1, -7, 0), 1);
        due.is(6, "create a/b", x.create(1, 102, Integer.MIN_VALUE, 0), 102);
        due.is(6, "create a/b/c", x.create(1, 10303, Integer.MAX_VALUE, 1), 10303);
        due.is(6, "the greatest name", x.create(0, 100, 3, 1), 100);
        due.node(6, x, 0, 0, 0, 2, 0, 0, -1, 2);
        due.node(6, x, 1, -7, 0, 1, 3, 3, -1, 1);
        due.node(6, x, 102, Integer.MIN_VALUE, 0, 1, 4, 4, -1, 1);
        due.node(6, x, 10303, Integer.MAX_VALUE, 0, 0, 5, 5, 1, 0);
        due.node(6, x, 100, 3, 0, 0, 6, 6, 0, 0);
        due.is(6, "latest()", x.latest(), 6);
        due.is(6, "state()", x.state(), 3 + 16 * 4);
        int deepest = Make.path(99, 99, 99);
        due.is(6, "an owned node has no children", x.create(0, Make.path(99, 99), 0, 0), WatchTree.CHILDLESS);
        x.remove(0, 100, -1);
        x.create(0, 100, 0, 0);
        x.create(0, Make.path(99, 99), 0, 0);
        due.is(6, "the greatest path", x.create(0, deepest, 0, 0), 1030300);
    }

    private static void createWrong() {
        WatchTree x = Make.withSessions(2);
        x.create(0, 1, 5, 0);
        x.create(0, 2, 6, 1);
        for (int session : NOT_OPEN) {
            due.is(6, "create of session " + session, x.create(session, 9, 0, 0), WatchTree.REFUSED);
        }
        for (int flags : new int[] {-1, 4, 7, Integer.MIN_VALUE, Integer.MAX_VALUE}) {
            due.is(6, "create with flags " + flags, x.create(0, 9, 0, flags), WatchTree.REFUSED);
        }
        for (int path : NO_PATHS) {
            for (int flags = 0; flags < 4; flags++) {
                due.is(6, "create " + path + " flags " + flags, x.create(0, path, 0, flags), WatchTree.NO_PATH);
            }
        }
        due.is(6, "create the root", x.create(0, 0, 0, 0), WatchTree.NO_PATH);
        due.is(23, "create the root, numbered", x.create(0, 0, 0, 2), WatchTree.NO_PATH);
        due.is(6, "no parent", x.create(0, Make.path(4, 1), 0, 0), WatchTree.NO_NODE);
        due.is(6, "no parent, numbered", x.create(0, Make.path(4, 1), 0, 2), WatchTree.NO_NODE);
        due.is(6, "no parent of the parent", x.create(0, Make.path(4, 1, 1), 0, 0), WatchTree.NO_NODE);
        due.is(6, "an owned parent", x.create(0, Make.path(1, 1), 0, 0), WatchTree.CHILDLESS);
        due.is(6, "another's owned parent", x.create(1, Make.path(1, 1), 0, 2), WatchTree.CHILDLESS);
        due.is(6, "it is there", x.create(1, 1, 0, 0), WatchTree.EXISTS);
        due.is(6, "it is there and owned", x.create(0, 2, 0, 1), WatchTree.EXISTS);
        due.is(6, "latest()", x.latest(), 4);
        due.is(6, "logged()", x.logged(), 4);
        due.is(6, "state()", x.state(), 3 + 16 * 2);
        due.node(6, x, 0, 0, 0, 2, 0, 0, -1, 2);
        due.node(6, x, 1, 5, 0, 0, 3, 3, -1, 0);
        due.node(6, x, 2, 6, 0, 0, 4, 4, 0, 0);
    }

    private static void createNumbered() {
        WatchTree x = Make.withSessions(1);
        due.is(6, "numbered 0", x.create(0, 50, 0, 2), Make.path(0));
        due.is(6, "numbered 1, owned", x.create(0, 100, 0, 3), Make.path(1));
        due.node(6, x, Make.path(1), 0, 0, 0, 3, 3, 0, 0);
        due.is(6, "number 2 by its name", x.create(0, Make.path(3), 0, 0), Make.path(3));
        due.is(6, "number 3 is there", x.create(0, 50, 0, 2), WatchTree.EXISTS);
        due.is(6, "what the path's node is does not matter", x.create(0, Make.path(40), 0, 0), Make.path(40));
        due.is(6, "numbered 4 through a path that is there", x.create(0, Make.path(40), 0, 2), Make.path(4));
        due.is(6, "under a node", x.create(0, Make.path(0, 77), 0, 2), Make.path(0, 0));
        due.is(6, "two deep", x.create(0, Make.path(0, 0, 77), 0, 2), Make.path(0, 0, 0));
        due.is(6, "removing counts too", x.remove(0, Make.path(0, 0, 0), -1), 2);
        due.is(6, "numbered 2", x.create(0, Make.path(0, 0, 77), 0, 3), Make.path(0, 0, 2));

        WatchTree y = Make.withSessions(1);
        // Each turn the root's child version grows by 4; the snapshots keep the log from being full.
        for (int i = 0; i < 33; i++) {
            y.create(0, 50, 0, 0);
            y.remove(0, 50, -1);
            y.create(0, 51, 0, 1);
            y.close(0);
            y.save(24);
            y.open(20);
        }
        due.is(6, "child version", y.node(0, 2), 132);
        due.is(6, "numbered 132 modulo 100", y.create(0, 1, 0, 2), Make.path(32));
    }

    private static void createFull() {
        WatchTree x = Make.withSessions(1);
        for (int i = 0; i < 20; i++) {
            due.is(6, "create " + (i + 1), x.create(0, i + 1, 0, i == 19 ? 1 : 0), i + 1);
        }
        due.is(6, "a 21st", x.create(0, 60, 0, 0), WatchTree.FULL);
        due.is(6, "a 21st below", x.create(0, Make.path(0, 0), 0, 2), WatchTree.FULL);
        due.is(6, "state()", x.state(), 1 + 16 * 20);
        due.is(6, "child version", x.node(0, 2), 20);
        x.remove(0, 7, -1);
        due.is(6, "the place is free again", x.create(0, 60, 9, 0), 60);
        due.node(6, x, 60, 9, 0, 0, 23, 23, -1, 0);
    }

    private static void createOrderOfWrongs() {
        WatchTree x = Make.withSessions(1);
        x.create(0, 1, 0, 1);
        for (int i = 2; i <= 20; i++) {
            x.create(0, i, 0, 0);
        }
        due.is(6, "NO_PATH before FULL", x.create(0, 101, 0, 0), WatchTree.NO_PATH);
        due.is(6, "NO_NODE before FULL", x.create(0, Make.path(60, 1), 0, 0), WatchTree.NO_NODE);
        due.is(6, "CHILDLESS before FULL", x.create(0, Make.path(0, 1), 0, 0), WatchTree.CHILDLESS);
        due.is(6, "EXISTS before FULL", x.create(0, 2, 0, 0), WatchTree.EXISTS);
        due.is(6, "FULL", x.create(0, 1, 0, 2), WatchTree.FULL);
    }

    private static void set() {
        WatchTree x = Make.withSessions(2);
        x.create(0, 1, 5, 1);
        due.is(7, "by any version", x.set(1, 1, 6, -1), 1);
        due.is(7, "by the version", x.set(0, 1, Integer.MIN_VALUE, 1), 2);
        due.node(7, x, 1, Integer.MIN_VALUE, 2, 0, 3, 5, 0, 0);
        due.is(7, "the root", x.set(1, 0, 8, 0), 1);
        due.node(7, x, 0, 8, 1, 1, 0, 6, -1, 1);
        due.is(7, "latest()", x.latest(), 6);
        due.is(7, "to the same data", x.set(1, 0, 8, 1), 2);
        due.is(7, "latest()", x.latest(), 7);
    }

    private static void setWrong() {
        WatchTree x = Make.withSessions(2);
        x.create(0, 1, 5, 0);
        x.set(0, 1, 6, -1);
        for (int session : NOT_OPEN) {
            due.is(7, "set of session " + session, x.set(session, 1, 0, -1), WatchTree.REFUSED);
        }
        for (int path : NO_PATHS) {
            due.is(7, "set " + path, x.set(0, path, 0, -1), WatchTree.NO_PATH);
        }
        due.is(7, "it is not there", x.set(0, 2, 0, -1), WatchTree.NO_NODE);
        due.is(7, "it is not there, whatever version", x.set(0, 2, 0, 9), WatchTree.NO_NODE);
        for (int version : new int[] {0, 2, -2, Integer.MIN_VALUE, Integer.MAX_VALUE}) {
            due.is(7, "set version " + version, x.set(0, 1, 0, version), WatchTree.VERSION);
        }
        due.node(7, x, 1, 6, 1, 0, 3, 4, -1, 0);
        due.is(7, "latest()", x.latest(), 4);
    }

    private static void remove() {
        WatchTree x = Make.withSessions(2);
        x.create(0, 1, 5, 0);
        x.create(0, Make.path(0, 4), 5, 1);
        x.create(0, Make.path(0, 6), 5, 0);
        x.set(0, Make.path(0, 6), 5, -1);
        due.is(8, "another's owned node", x.remove(1, Make.path(0, 4), 0), 3);
        due.is(8, "by the version", x.remove(1, Make.path(0, 6), 1), 4);
        due.node(8, x, 1, 5, 0, 4, 3, 3, -1, 0);
        due.is(8, "by any version", x.remove(1, 1, -1), 2);
        due.is(8, "node(1, 0)", x.node(1, 0), WatchTree.NOTHING);
        due.node(8, x, 0, 0, 0, 2, 0, 0, -1, 0);
        due.is(8, "latest()", x.latest(), 9);
        due.is(8, "state()", x.state(), 3);
        due.is(8, "its owner has it no more", x.close(0), 0);
        due.is(8, "made anew it begins anew", x.create(1, 1, 2, 0), 1);
        due.node(8, x, 1, 2, 0, 0, 11, 11, -1, 0);
    }

    private static void removeWrong() {
        WatchTree x = Make.withSessions(2);
        x.create(0, 1, 5, 0);
        x.create(0, Make.path(0, 4), 5, 0);
        for (int session : NOT_OPEN) {
            due.is(8, "remove of session " + session, x.remove(session, 102, -1), WatchTree.REFUSED);
        }
        for (int path : NO_PATHS) {
            due.is(8, "remove " + path, x.remove(0, path, -1), WatchTree.NO_PATH);
        }
        due.is(8, "the root", x.remove(0, 0, -1), WatchTree.NO_PATH);
        due.is(8, "the root, whatever version", x.remove(0, 0, 5), WatchTree.NO_PATH);
        due.is(8, "it is not there", x.remove(0, 2, -1), WatchTree.NO_NODE);
        due.is(8, "VERSION before CHILDREN", x.remove(0, 1, 1), WatchTree.VERSION);
        due.is(8, "-2 is not any version", x.remove(0, Make.path(0, 4), -2), WatchTree.VERSION);
        due.is(8, "it has children", x.remove(0, 1, 0), WatchTree.CHILDREN);
        due.is(8, "it has children, any version", x.remove(0, 1, -1), WatchTree.CHILDREN);
        due.node(8, x, 1, 5, 0, 1, 3, 3, -1, 1);
        due.is(8, "latest()", x.latest(), 4);
    }

    private static void refusedBeforeLogFullBeforeWrong() {
        WatchTree x = Make.withFullLog();
        due.is(23, "create, not open", x.create(1, 1, 0, 0), WatchTree.REFUSED);
        due.is(23, "create, no flags", x.create(0, 1, 0, 4), WatchTree.REFUSED);
        due.is(6, "create with a full log", x.create(0, 1, 0, 0), WatchTree.LOG_FULL);
        due.is(23, "create no path with a full log", x.create(0, 101, 0, 0), WatchTree.LOG_FULL);
        due.is(23, "set, not open", x.set(1, 0, 0, -1), WatchTree.REFUSED);
        due.is(7, "set with a full log", x.set(0, 0, 0, -1), WatchTree.LOG_FULL);
        due.is(23, "set no path with a full log", x.set(0, 101, 0, -1), WatchTree.LOG_FULL);
        due.is(23, "remove, not open", x.remove(1, 1, -1), WatchTree.REFUSED);
        due.is(8, "remove with a full log", x.remove(0, 1, -1), WatchTree.LOG_FULL);
        due.is(23, "remove no path with a full log", x.remove(0, 101, -1), WatchTree.LOG_FULL);
        due.node(23, x, 0, 38, 39, 0, 0, 40, -1, 0);
        due.is(23, "latest()", x.latest(), 40);
    }
}
