/** Promises 20 to 22: save, logged, crash. */
public final class LogTest {
    private static final Due due = new Due();

    public static void main(String[] args) {
        save();
        placesAboveDoNotCount();
        snapshotWhileWriting();
        logged();
        fullLogIsMended();
        logBeyondForty();
        crash();
        crashTakesSnapshotUnderWay();
        crashKeepsAllElse();
        due.end();
    }

    private static void save() {
        WatchTree x = new WatchTree();
        for (int n : new int[] {0, -1, 25, Integer.MIN_VALUE, Integer.MAX_VALUE}) {
            due.is(20, "save(" + n + ")", x.save(n), WatchTree.REFUSED);
        }
        due.is(20, "save(1)", x.save(1), 23);
        due.is(20, "save(0) under way", x.save(0), WatchTree.REFUSED);
        due.is(20, "save(25) under way", x.save(25), WatchTree.REFUSED);
        due.is(20, "save(22)", x.save(22), 1);
        due.is(20, "save(1)", x.save(1), 0);
        due.is(20, "save(24) at once", x.save(24), 0);
        due.is(20, "save(23)", x.save(23), 1);
    }

    private static void placesAboveDoNotCount() {
        WatchTree x = new WatchTree();
        x.save(20);
        due.is(20, "save(24) with 4 left", x.save(24), 0);
        due.is(20, "the next begins with none", x.save(1), 23);
    }

    private static void snapshotWhileWriting() {
        WatchTree x = Make.withSessions(1);
        x.create(0, 1, 0, 0);
        due.is(20, "save(10)", x.save(10), 14);
        due.is(20, "they stay in the log", x.logged(), 2);
        x.set(0, 1, 5, -1);
        x.create(0, 2, 0, 0);
        due.is(20, "save(10)", x.save(10), 4);
        x.remove(0, 1, -1);
        due.is(20, "logged()", x.logged(), 5);
        due.is(20, "save(4)", x.save(4), 0);
        due.is(20, "those since its beginning stay", x.logged(), 3);
        due.is(20, "crash()", x.crash(), 3);
        due.is(20, "node(1, 0)", x.node(1, 0), WatchTree.NOTHING);
        due.node(20, x, 2, 0, 0, 0, 4, 4, -1, 0);
        due.node(20, x, 0, 0, 0, 3, 0, 0, -1, 1);
        due.is(20, "save(24)", x.save(24), 0);
        due.is(20, "all at once", x.logged(), 0);
    }

    private static void logged() {
        WatchTree x = new WatchTree();
        due.is(21, "at first", x.logged(), 0);
        x.open(5);
        x.create(0, 1, 0, 0);
        x.create(0, 1, 0, 0);
        x.part(0, 2, 0, 0);
        x.part(0, 3, 0, 0);
        x.multi(0);
        due.is(21, "logged()", x.logged(), 3);
        x.close(0);
        due.is(21, "logged()", x.logged(), 4);
        x.save(24);
        due.is(21, "logged()", x.logged(), 0);
        x.open(3);
        due.is(21, "logged()", x.logged(), 1);
        x.pass(3);
        due.is(21, "logged()", x.logged(), 2);
    }

    private static void fullLogIsMended() {
        WatchTree x = Make.withSessions(1);
        for (int i = 1; i < 40; i++) {
            due.is(21, "set with " + i + " in the log", x.set(0, 0, i, -1), i);
        }
        due.is(21, "logged()", x.logged(), 40);
        due.is(21, "set with 40 in the log", x.set(0, 0, 0, -1), WatchTree.LOG_FULL);
        due.is(20, "save(23)", x.save(23), 1);
        due.is(20, "it is not complete", x.set(0, 0, 0, -1), WatchTree.LOG_FULL);
        due.is(22, "crash()", x.crash(), 40);
        due.is(22, "it is gone", x.save(1), 23);
        due.is(22, "the log is full still", x.set(0, 0, 0, -1), WatchTree.LOG_FULL);
        due.is(20, "save(23)", x.save(23), 0);
        due.is(21, "logged()", x.logged(), 0);
        due.is(21, "set", x.set(0, 0, 0, -1), 40);
        due.is(21, "logged()", x.logged(), 1);
    }

    private static void logBeyondForty() {
        WatchTree x = Make.withSessions(4);
        for (int i = 0; i < 36; i++) {
            x.set(0, 0, i, -1);
        }
        x.save(5);
        due.is(21, "close(1)", x.close(1), 0);
        due.is(21, "pass(20)", x.pass(20), 3);
        due.is(21, "logged()", x.logged(), 44);
        due.is(21, "open(1)", x.open(1), WatchTree.LOG_FULL);
        due.is(21, "crash()", x.crash(), 44);
        due.is(21, "state()", x.state(), 0);
        x.save(24);
        due.is(21, "open(1)", x.open(1), 0);
        due.is(21, "latest()", x.latest(), 45);
    }

    private static void crash() {
        WatchTree x = new WatchTree();
        x.open(20);
        x.open(5);
        x.pass(4);
        x.watch(0, 0, 0);
        x.watch(0, 1, 0);
        x.set(0, 0, 7, -1);
        x.part(0, 1, 0, 0);
        due.is(22, "crash()", x.crash(), 3);
        due.is(22, "the log is as before", x.logged(), 3);
        due.is(22, "watches()", x.watches(), 0);
        due.is(22, "event(0)", x.event(0), WatchTree.REFUSED);
        due.is(22, "the waiting parts are gone", x.multi(0), WatchTree.REFUSED);
        due.is(22, "left(0)", x.left(0), 20);
        due.is(22, "left(1)", x.left(1), 5);
        due.is(22, "left(2)", x.left(2), WatchTree.REFUSED);
        due.is(22, "state()", x.state(), 3);
        due.is(22, "pass(4)", x.pass(4), 0);
        due.is(22, "pass(1)", x.pass(1), 1);
        due.is(22, "crash()", x.crash(), 4);
        due.is(22, "crash() again", x.crash(), 4);
        due.is(22, "state()", x.state(), 1);
    }

    private static void crashTakesSnapshotUnderWay() {
        WatchTree x = Make.withSessions(1);
        x.save(23);
        x.create(0, 1, 0, 0);
        x.crash();
        due.is(22, "save(1) begins anew", x.save(1), 23);
        x.create(0, 2, 0, 0);
        due.is(22, "save(23)", x.save(23), 0);
        due.is(22, "since the beginning of the second", x.logged(), 1);
        x.save(3);
        x.create(0, 3, 0, 0);
        due.is(22, "the complete one counts", x.crash(), 2);
    }

    private static void crashKeepsAllElse() {
        WatchTree x = Make.withSessions(2);
        x.create(0, 1, 11, 0);
        x.create(1, Make.path(0, 5), 12, 1);
        x.save(24);
        x.set(0, 1, 13, -1);
        x.part(0, Make.path(0, 6), 14, 1);
        x.part(1, 0, 15, 0);
        x.multi(1);
        x.close(0);
        x.open(7);
        due.is(22, "crash()", x.crash(), 4);
        due.is(22, "latest()", x.latest(), 8);
        due.is(22, "state()", x.state(), 3 + 16 * 3);
        due.node(22, x, 0, 15, 1, 1, 0, 6, -1, 1);
        due.node(22, x, 1, 13, 1, 2, 3, 5, -1, 2);
        due.node(22, x, Make.path(0, 5), 12, 0, 0, 4, 4, 1, 0);
        due.node(22, x, Make.path(0, 6), 14, 0, 0, 6, 6, 1, 0);
        due.is(22, "left(0)", x.left(0), 7);
        due.is(22, "left(1)", x.left(1), 20);
        due.is(22, "its nodes are its own still", x.close(1), 2);
        due.is(22, "state()", x.state(), 1 + 16);
    }
}
