/** Promises 2 to 5 and 19: open, close, touch, pass, left. */
public final class SessionsTest {
    private static final Due due = new Due();

    public static void main(String[] args) {
        open();
        openWithFullLog();
        close();
        closeTakesOwnNodes();
        closeWithFullLog();
        touch();
        pass();
        passClosesInOrder();
        left();
        due.end();
    }

    private static void open() {
        WatchTree x = new WatchTree();
        for (int timeout : new int[] {0, -1, 21, Integer.MIN_VALUE, Integer.MAX_VALUE}) {
            due.is(2, "open(" + timeout + ")", x.open(timeout), WatchTree.REFUSED);
        }
        due.is(2, "latest() after refusals", x.latest(), 0);
        due.is(2, "open(1)", x.open(1), 0);
        due.is(2, "open(20)", x.open(20), 1);
        due.is(2, "left(0)", x.left(0), 1);
        due.is(2, "left(1)", x.left(1), 20);
        due.is(2, "latest()", x.latest(), 2);
        due.is(2, "pass(3)", x.pass(3), 1);
        due.is(2, "the least that is not open", x.open(5), 0);
        due.is(2, "left(0) from the time on", x.left(0), 5);
        due.is(2, "open(5)", x.open(5), 2);
        due.is(2, "open(5)", x.open(5), 3);
        due.is(2, "all are open", x.open(5), WatchTree.REFUSED);
        due.is(2, "latest()", x.latest(), 6);
        x.close(2);
        x.close(1);
        due.is(2, "the least that is not open", x.open(4), 1);
        due.is(2, "the next", x.open(4), 2);
    }

    private static void openWithFullLog() {
        WatchTree x = Make.withFullLog();
        due.is(2, "open(5) with a full log", x.open(5), WatchTree.LOG_FULL);
        due.is(2, "state()", x.state(), 1);
        due.is(23, "open(0) with a full log", x.open(0), WatchTree.REFUSED);
        WatchTree y = Make.withSessions(4);
        for (int i = 0; i < 36; i++) {
            y.set(0, 0, i, -1);
        }
        due.is(23, "logged()", y.logged(), 40);
        due.is(23, "open(5) with all open and a full log", y.open(5), WatchTree.REFUSED);
    }

    private static void close() {
        WatchTree x = Make.withSessions(2);
        for (int session : new int[] {-1, 2, 3, 4, Integer.MIN_VALUE, Integer.MAX_VALUE}) {
            due.is(3, "close(" + session + ")", x.close(session), WatchTree.REFUSED);
        }
        due.is(3, "latest()", x.latest(), 2);
        due.is(3, "close(0)", x.close(0), 0);
        due.is(3, "close(0) again", x.close(0), WatchTree.REFUSED);
        due.is(3, "latest()", x.latest(), 3);
        due.is(3, "state()", x.state(), 2);
    }

    private static void closeTakesOwnNodes() {
        WatchTree x = Make.withSessions(3);
        x.create(0, 1, 0, 0);
        x.create(1, Make.path(0, 3), 0, 1);
        x.create(1, Make.path(0, 9), 0, 1);
        x.create(1, 5, 0, 3);
        x.create(2, Make.path(0, 4), 0, 1);
        x.create(1, Make.path(0, 5), 0, 0);
        int numbered = Make.path(1);
        due.is(3, "node(" + numbered + ", 5)", x.node(numbered, 5), 1);
        x.watch(0, 2, numbered);
        x.watch(0, 1, 1);
        x.watch(0, 0, Make.path(0, 9));
        x.watch(2, 2, Make.path(0, 3));
        x.watch(1, 2, Make.path(0, 3));
        x.watch(1, 2, 77);
        due.is(3, "latest() before", x.latest(), 9);
        due.is(3, "close(1)", x.close(1), 3);
        due.is(3, "latest() after", x.latest(), 10);
        due.is(3, "state()", x.state(), 5 + 16 * 3);
        due.is(3, "child version of 1", x.node(1, 2), 6);
        due.is(3, "child version of the root", x.node(0, 2), 3);
        due.is(3, "children of 1", x.node(1, 6), 2);
        due.is(3, "another's node", x.node(Make.path(0, 4), 5), 2);
        due.is(3, "watches()", x.watches(), 0);
        // The greatest path first; one watch on the parent tells once.
        due.events(3, x, 0, Make.GONE + Make.path(0, 9), Make.CHILDREN + 1, Make.GONE + numbered);
        due.events(3, x, 2, Make.GONE + Make.path(0, 3));
        due.is(3, "open(9)", x.open(9), 1);
        due.is(3, "the events of the session before are gone", x.event(1), WatchTree.REFUSED);
        due.is(3, "close(1) owns nothing now", x.close(1), 0);
    }

    private static void closeWithFullLog() {
        WatchTree x = Make.withFullLog();
        due.is(3, "close(0) with a full log", x.close(0), 0);
        due.is(3, "logged()", x.logged(), 41);
        due.is(3, "open(1)", x.open(1), WatchTree.LOG_FULL);
    }

    private static void touch() {
        WatchTree x = new WatchTree();
        x.open(10);
        x.open(3);
        x.pass(2);
        for (int session : new int[] {-1, 2, 4, Integer.MIN_VALUE, Integer.MAX_VALUE}) {
            due.is(4, "touch(" + session + ")", x.touch(session), false);
        }
        due.is(4, "touch(1)", x.touch(1), true);
        due.is(4, "left(1)", x.left(1), 3);
        due.is(4, "left(0)", x.left(0), 8);
        due.is(4, "latest()", x.latest(), 2);
        due.is(4, "pass(2)", x.pass(2), 0);
        due.is(4, "pass(1)", x.pass(1), 1);
        due.is(4, "touch(1) when closed", x.touch(1), false);
        due.is(4, "touch(0)", x.touch(0), true);
        due.is(4, "left(0)", x.left(0), 10);
    }

    private static void pass() {
        WatchTree x = new WatchTree();
        x.open(1);
        x.open(20);
        for (int n : new int[] {-1, 31, Integer.MIN_VALUE, Integer.MAX_VALUE}) {
            due.is(5, "pass(" + n + ")", x.pass(n), WatchTree.REFUSED);
        }
        due.is(5, "left(0) after refusals", x.left(0), 1);
        due.is(5, "pass(0)", x.pass(0), 0);
        due.is(5, "the deadline is the time", x.pass(1), 1);
        due.is(5, "state()", x.state(), 2);
        due.is(5, "left(1)", x.left(1), 19);
        due.is(5, "the deadline is before the time", x.pass(30), 1);
        due.is(5, "state()", x.state(), 0);
        due.is(5, "latest()", x.latest(), 4);
        due.is(5, "pass(30) with none open", x.pass(30), 0);
        x.open(20);
        due.is(5, "left(0)", x.left(0), 20);
    }

    private static void passClosesInOrder() {
        WatchTree x = new WatchTree();
        x.open(6);
        x.open(20);
        x.open(4);
        x.create(2, 1, 0, 1);
        x.create(0, 2, 0, 1);
        x.create(0, 3, 0, 1);
        x.watch(1, 2, 1);
        x.watch(1, 2, 2);
        x.watch(1, 2, 3);
        x.watch(2, 2, 2);
        due.is(5, "pass(10)", x.pass(10), 2);
        due.is(5, "each is a transaction", x.latest(), 8);
        due.is(5, "state()", x.state(), 2);
        due.is(5, "watches()", x.watches(), 0);
        // Session 0 before session 2, although the deadline of 2 was the earlier one.
        due.events(5, x, 1, Make.GONE + 3, Make.GONE + 2, Make.GONE + 1);
        WatchTree y = Make.withFullLog();
        due.is(5, "pass(20) with a full log", y.pass(20), 1);
        due.is(5, "logged()", y.logged(), 41);
    }

    private static void left() {
        WatchTree x = new WatchTree();
        x.open(7);
        for (int session : new int[] {-1, 1, 3, 4, Integer.MIN_VALUE, Integer.MAX_VALUE}) {
            due.is(19, "left(" + session + ")", x.left(session), WatchTree.REFUSED);
        }
        due.is(19, "left(0)", x.left(0), 7);
        x.pass(6);
        due.is(19, "left(0)", x.left(0), 1);
        x.touch(0);
        due.is(19, "left(0)", x.left(0), 7);
        x.close(0);
        due.is(19, "left(0) when closed", x.left(0), WatchTree.REFUSED);
    }
}
