/** The boundary cases of promises 1 to 5 and 19 and of the terms SESSIONS, TRANSACTIONS and CLOSING, sentence by sentence. */
public final class SessionEdgesTest {
    private static final Due due = new Due();

    public static void main(String[] args) {
        aNewObject();
        timeIsZeroAtFirst();
        timeoutsOneToTwenty();
        fourSessions();
        openWithALogOfForty();
        timeoutAndDeadlineOfEach();
        deadlineIsTimePlusTimeout();
        leastThatIsNotOpen();
        openingIsOneTransaction();
        refusedIsNoTransaction();
        closeCountsNodes();
        closingTakesGreatestFirst();
        eachThatGoesThenItsParent();
        closingGrowsEachParent();
        closedIsToldNothing();
        closeRefused();
        touchSetsTheDeadline();
        passZeroToThirty();
        passAtTheDeadline();
        passAllAtOnce();
        passInTheirOrder();
        passClosesAllFour();
        leftToTheDeadline();
        due.end();
    }

    private static void aNewObject() {
        due.says(1, "The root alone, no sessions, an empty log, no snapshot under way.");
        WatchTree x = new WatchTree();
        due.node(x, 0, 0, 0, 0, 0, 0, -1, 0);
        due.is("child(0, 0)", x.child(0, 0), WatchTree.REFUSED);
        due.is("state()", x.state(), 0);
        due.is("latest()", x.latest(), 0);
        due.is("logged()", x.logged(), 0);
        due.is("watches()", x.watches(), 0);
        due.is("wrongPart()", x.wrongPart(), -1);
        due.is("pass(30)", x.pass(30), 0);
        due.is("crash()", x.crash(), 0);
        due.is("save(23) begins one", x.save(23), 1);
        for (int session = 0; session < 4; session++) {
            due.is("close(" + session + ")", x.close(session), WatchTree.REFUSED);
            due.is("touch(" + session + ")", x.touch(session), false);
            due.is("left(" + session + ")", x.left(session), WatchTree.REFUSED);
            due.is("event(" + session + ")", x.event(session), WatchTree.REFUSED);
            due.is("create of " + session, x.create(session, 1, 0, 0), WatchTree.REFUSED);
            due.is("set of " + session, x.set(session, 0, 0, -1), WatchTree.REFUSED);
            due.is("remove of " + session, x.remove(session, 1, -1), WatchTree.REFUSED);
            due.is("watch of " + session, x.watch(session, 0, 0), WatchTree.REFUSED);
            due.is("multi(" + session + ")", x.multi(session), WatchTree.REFUSED);
        }
    }

    private static void timeIsZeroAtFirst() {
        due.says(0, "The TIME is 0 at first.");
        WatchTree x = new WatchTree();
        x.open(1);
        due.is("left(0)", x.left(0), 1);
        due.is("pass(0)", x.pass(0), 0);
        due.is("pass(1)", x.pass(1), 1);
    }

    private static void timeoutsOneToTwenty() {
        due.says(2, "REFUSED if timeout is not 1 .. 20");
        for (int timeout = -3; timeout <= 24; timeout++) {
            WatchTree x = new WatchTree();
            boolean isOne = timeout >= 1 && timeout <= 20;
            due.is("open(" + timeout + ")", x.open(timeout), isOne ? 0 : WatchTree.REFUSED);
            due.is("state()", x.state(), isOne ? 1 : 0);
            due.is("left(0)", x.left(0), isOne ? timeout : WatchTree.REFUSED);
            due.is("latest()", x.latest(), isOne ? 1 : 0);
        }
        for (int timeout : new int[] {Integer.MIN_VALUE, Integer.MIN_VALUE + 1, Integer.MAX_VALUE - 1, Integer.MAX_VALUE}) {
            due.is("open(" + timeout + ")", new WatchTree().open(timeout), WatchTree.REFUSED);
        }
    }

    private static void fourSessions() {
        due.says(2, "REFUSED if .. all are open");
        WatchTree x = new WatchTree();
        for (int session = 0; session < 4; session++) {
            due.is("open(20)", x.open(20), session);
        }
        due.is("a fifth", x.open(20), WatchTree.REFUSED);
        due.is("latest()", x.latest(), 4);
        x.close(3);
        due.is("room again", x.open(20), 3);
        due.is("a fifth", x.open(1), WatchTree.REFUSED);
    }

    private static void openWithALogOfForty() {
        due.says(2, "REFUSED if timeout is not 1 .. 20, or all are open; LOG_FULL.");
        for (int logged = 39; logged <= 41; logged++) {
            WatchTree x = Make.withSessions(2);
            Make.fillLog(x, Math.min(logged, 40));
            if (logged == 41) {
                x.close(1);
            }
            int least = logged == 41 ? 1 : 2;
            int open = logged == 41 ? 1 : 3;
            due.is("open(5) with " + logged, x.open(5), logged < 40 ? least : WatchTree.LOG_FULL);
            due.is("state()", x.state(), logged < 40 ? 7 : open);
            due.is("left(" + least + ")", x.left(least), logged < 40 ? 5 : WatchTree.REFUSED);
            due.is("latest()", x.latest(), Math.max(logged, 40));
            x.save(24);
            due.is("open(5) after a snapshot", x.open(5), logged < 40 ? 3 : least);
        }
    }

    private static void timeoutAndDeadlineOfEach() {
        due.says(0, "SESSIONS 0 .. 3 are open or not, each with a TIMEOUT (1 .. 20) and a DEADLINE.");
        int[] timeouts = {1, 20, 2, 19};
        WatchTree x = new WatchTree();
        for (int session = 0; session < 4; session++) {
            due.is("open(" + timeouts[session] + ")", x.open(timeouts[session]), session);
        }
        for (int time = 1; time <= 20; time++) {
            int closed = 0;
            for (int timeout : timeouts) {
                closed += timeout == time ? 1 : 0;
            }
            due.is("pass(1) to " + time, x.pass(1), closed);
            for (int session = 0; session < 4; session++) {
                int left = timeouts[session] - time;
                due.is("left(" + session + ") at " + time, x.left(session), left > 0 ? left : WatchTree.REFUSED);
            }
        }
    }

    private static void deadlineIsTimePlusTimeout() {
        due.says(2, "its deadline is the time + timeout.");
        WatchTree x = new WatchTree();
        x.pass(30);
        x.pass(30);
        x.open(1);
        x.open(20);
        due.is("left(0)", x.left(0), 1);
        due.is("left(1)", x.left(1), 20);
        due.is("pass(1)", x.pass(1), 1);
        due.is("pass(18)", x.pass(18), 0);
        due.is("pass(1)", x.pass(1), 1);
        // The longest time that 512 calls can reach.
        WatchTree y = new WatchTree();
        for (int i = 0; i < 508; i++) {
            y.pass(30);
        }
        y.open(20);
        due.is("left(0) at 15240", y.left(0), 20);
        due.is("pass(19) at 15240", y.pass(19), 0);
        due.is("pass(1) at 15259", y.pass(1), 1);
    }

    private static void leastThatIsNotOpen() {
        due.says(2, "Opens the least session that is not open: its number");
        for (int closed = 0; closed < 16; closed++) {
            WatchTree x = Make.withSessions(4);
            for (int session = 3; session >= 0; session--) {
                if ((closed >> session & 1) != 0) {
                    x.close(session);
                }
            }
            int least = closed == 0 ? WatchTree.REFUSED : Integer.numberOfTrailingZeros(closed);
            due.is("open(7) with " + (15 - closed) + " open", x.open(7), least);
            due.is("state()", x.state(), closed == 0 ? 15 : 15 - closed + (1 << least));
        }
    }

    private static void openingIsOneTransaction() {
        due.says(0, "TRANSACTIONS are numbered 1, 2, .. Each opening or closing of a session, and each single request or multi request that succeeds, is one.");
        WatchTree x = new WatchTree();
        x.open(20);
        due.is("an opening", x.latest(), 1);
        x.create(0, 1, 0, 1);
        due.is("a CREATE", x.latest(), 2);
        due.is("its number", x.node(1, 3), 2);
        x.set(0, 1, 0, -1);
        due.is("a SET", x.latest(), 3);
        due.is("its number", x.node(1, 4), 3);
        x.create(0, 2, 0, 0);
        x.remove(0, 2, -1);
        due.is("a REMOVE", x.latest(), 5);
        x.part(3, 0, 0, -1);
        x.part(3, 0, 0, -1);
        due.is("a multi request", x.multi(0), 6);
        x.close(0);
        due.is("a closing", x.latest(), 7);
        x.open(1);
        x.open(1);
        x.pass(1);
        due.is("two closings by time", x.latest(), 11);
    }

    private static void refusedIsNoTransaction() {
        due.says(0, "each single request or multi request that succeeds, is one.");
        WatchTree x = Make.withSessions(1);
        x.create(0, 0, 0, 0);
        x.set(0, 9, 0, -1);
        x.remove(0, 9, -1);
        x.part(3, 9, 0, -1);
        x.multi(0);
        x.multi(0);
        x.open(0);
        x.close(1);
        x.pass(0);
        x.touch(0);
        x.watch(0, 0, 0);
        x.event(0);
        x.save(24);
        x.crash();
        due.is("latest()", x.latest(), 1);
        due.is("the next one's number", x.create(0, 1, 0, 0), 1);
        due.is("latest()", x.latest(), 2);
        due.is("node(1, 3)", x.node(1, 3), 2);
    }

    private static void closeCountsNodes() {
        due.says(3, "Closes a session: how many nodes went with it");
        for (int own : new int[] {0, 1, 19, 20}) {
            WatchTree x = Make.withSessions(2);
            for (int i = 1; i <= 20; i++) {
                x.create(i <= own ? 0 : 1, i, 0, i <= own || i % 2 == 0 ? 1 : 0);
            }
            due.is("close(0) with " + own, x.close(0), own);
            due.is("state()", x.state(), 2 + 16 * (20 - own));
            due.is("latest()", x.latest(), 23);
            due.is("node(0, 2)", x.node(0, 2), 20 + own);
        }
    }

    private static void closingTakesGreatestFirst() {
        due.says(0, "CLOSING a session takes its nodes away (in the order of their paths, the greatest first)");
        WatchTree x = Make.withSessions(2);
        int[] paths = {100, Make.path(0, 99), Make.path(0, 0, 0), Make.path(0, 0, 99), 50};
        x.create(0, 1, 0, 0);
        x.create(0, Make.path(0, 0), 0, 0);
        for (int path : paths) {
            x.create(0, path, 0, 1);
            x.watch(1, 2, path);
        }
        due.is("close(0)", x.close(0), 5);
        // Greatest by number, so the deepest first: three names, then two, then one.
        due.events(x, 1, Make.GONE + Make.path(0, 0, 99), Make.GONE + Make.path(0, 0, 0), Make.GONE + Make.path(0, 99),
            Make.GONE + 100, Make.GONE + 50);
    }

    private static void eachThatGoesThenItsParent() {
        due.says(0, "the nodes that go with a session, tell in their order, when all is done");
        WatchTree x = Make.withSessions(3);
        x.create(1, 1, 0, 0);
        x.create(1, Make.path(0, 0), 0, 0);
        for (int path : new int[] {2, Make.path(0, 1), Make.path(0, 0, 0), Make.path(0, 0, 1)}) {
            x.create(0, path, 0, 1);
            x.watch(1, 0, path);
        }
        for (int path : new int[] {0, 1, Make.path(0, 0)}) {
            x.watch(1, 1, path);
            x.watch(2, 1, path);
        }
        due.is("close(0)", x.close(0), 4);
        // A watch tells once, so the second child that goes from 1/0 has no CHILDREN left to tell.
        due.events(x, 1, Make.GONE + Make.path(0, 0, 1), Make.CHILDREN + Make.path(0, 0), Make.GONE + Make.path(0, 0, 0),
            Make.GONE + Make.path(0, 1), Make.CHILDREN + 1, Make.GONE + 2, Make.CHILDREN);
        due.events(x, 2, Make.CHILDREN + Make.path(0, 0), Make.CHILDREN + 1, Make.CHILDREN);
        due.is("watches()", x.watches(), 0);
    }

    private static void closingGrowsEachParent() {
        due.says(0, "growing the child version of each one's parent by 1.");
        WatchTree x = Make.withSessions(2);
        x.create(1, 1, 0, 0);
        x.create(1, Make.path(0, 0), 0, 0);
        x.create(0, Make.path(0, 0, 0), 0, 1);
        x.create(0, Make.path(0, 0, 1), 0, 1);
        x.create(0, Make.path(0, 1), 0, 1);
        x.create(0, 2, 0, 1);
        x.close(0);
        due.node(x, 0, 0, 0, 3, 0, 0, -1, 1);
        due.node(x, 1, 0, 0, 3, 3, 3, -1, 1);
        due.node(x, Make.path(0, 0), 0, 0, 4, 4, 4, -1, 0);
    }

    private static void closedIsToldNothing() {
        due.says(0, "a session that is closed is told nothing, its events are gone.");
        WatchTree x = Make.withSessions(2);
        x.create(0, 1, 0, 1);
        x.watch(0, 0, 0);
        x.set(1, 0, 0, -1);
        x.watch(0, 0, 1);
        x.watch(0, 1, 0);
        x.watch(0, 2, 2);
        x.close(0);
        due.is("watches()", x.watches(), 0);
        due.is("event(0)", x.event(0), WatchTree.REFUSED);
        due.is("open(5)", x.open(5), 0);
        due.is("event(0) of the one after it", x.event(0), WatchTree.REFUSED);
        x.create(1, 2, 0, 0);
        due.is("event(0), its watches are gone", x.event(0), WatchTree.REFUSED);
        // Two are closed by the same pass: the second has watches on nodes of the first.
        WatchTree y = Make.withSessions(2);
        y.create(0, 1, 0, 1);
        y.create(1, 2, 0, 1);
        y.watch(0, 2, 2);
        y.watch(1, 2, 1);
        due.is("pass(20)", y.pass(20), 2);
        y.open(5);
        y.open(5);
        due.events(y, 0);
        due.events(y, 1);
        due.is("watches()", y.watches(), 0);
    }

    private static void closeRefused() {
        due.says(3, "REFUSED if it is not open.");
        WatchTree x = Make.withSessions(3);
        x.close(1);
        for (int session : new int[] {Integer.MIN_VALUE, -1, 1, 3, 4, Integer.MAX_VALUE}) {
            due.is("close(" + session + ")", x.close(session), WatchTree.REFUSED);
        }
        due.is("state()", x.state(), 5);
        due.is("latest()", x.latest(), 4);
        x.pass(20);
        due.is("close(0) after its time", x.close(0), WatchTree.REFUSED);
    }

    private static void touchSetsTheDeadline() {
        due.says(4, "The session's deadline becomes the time + its timeout: true; false if it is not open.");
        WatchTree x = new WatchTree();
        x.open(3);
        x.open(20);
        x.pass(2);
        due.is("touch(0) with 1 left", x.touch(0), true);
        due.is("left(0)", x.left(0), 3);
        due.is("left(1) is another's", x.left(1), 18);
        due.is("touch(0) twice", x.touch(0), true);
        due.is("left(0)", x.left(0), 3);
        due.is("pass(3)", x.pass(3), 1);
        due.is("touch(0) too late", x.touch(0), false);
        due.is("state()", x.state(), 2);
        due.is("latest()", x.latest(), 3);
        x.open(7);
        due.is("touch(0)", x.touch(0), true);
        due.is("left(0) by the new timeout", x.left(0), 7);
        for (int session : new int[] {Integer.MIN_VALUE, -1, 2, 3, 4, Integer.MAX_VALUE}) {
            due.is("touch(" + session + ")", x.touch(session), false);
        }
    }

    private static void passZeroToThirty() {
        due.says(5, "The time goes on by n (0 .. 30, else REFUSED)");
        for (int n = -3; n <= 34; n++) {
            WatchTree x = Make.withSessions(1);
            boolean isOne = n >= 0 && n <= 30;
            int closed = n >= 20 ? 1 : 0;
            due.is("pass(" + n + ")", x.pass(n), isOne ? closed : WatchTree.REFUSED);
            due.is("left(0)", x.left(0), !isOne ? 20 : n >= 20 ? WatchTree.REFUSED : 20 - n);
        }
        // A refused one must not have moved the time: the next session's deadline tells.
        WatchTree y = Make.withSessions(1);
        y.pass(31);
        y.pass(-1);
        y.pass(Integer.MIN_VALUE);
        y.pass(Integer.MAX_VALUE);
        due.is("left(0)", y.left(0), 20);
        due.is("pass(30) with none left", y.pass(30), 1);
        due.is("pass(30) with none open", y.pass(30), 0);
    }

    private static void passAtTheDeadline() {
        due.says(5, "every session whose deadline is the time or before it is closed");
        for (int timeout = 1; timeout <= 20; timeout++) {
            WatchTree x = new WatchTree();
            x.open(timeout);
            due.is("pass(" + (timeout - 1) + "), one before", x.pass(timeout - 1), 0);
            due.is("left(0)", x.left(0), 1);
            due.is("pass(1), the deadline", x.pass(1), 1);
            x.open(timeout);
            due.is("pass(" + (timeout + 1) + "), one after", x.pass(timeout + 1), 1);
        }
    }

    private static void passAllAtOnce() {
        due.says(5, "all at once");
        WatchTree x = new WatchTree();
        x.open(9);
        x.open(4);
        x.open(20);
        x.create(0, 1, 0, 1);
        x.create(1, 3, 0, 1);
        x.watch(2, 2, 1);
        x.watch(2, 2, 3);
        // By steps of 1 session 1 would go before session 0; at once it is session 0 that goes first.
        due.is("pass(10)", x.pass(10), 2);
        due.events(x, 2, Make.GONE + 1, Make.GONE + 3);
        due.is("left(2)", x.left(2), 10);
    }

    private static void passInTheirOrder() {
        due.says(5, "in their order: how many.");
        WatchTree x = new WatchTree();
        x.open(4);
        x.open(3);
        x.open(20);
        x.open(2);
        for (int session = 0; session < 4; session++) {
            x.create(session, 10 - session, 0, 1);
            x.watch(2, 2, 10 - session);
        }
        due.is("pass(19)", x.pass(19), 3);
        due.is("state()", x.state(), 4 + 16);
        due.events(x, 2, Make.GONE + 10, Make.GONE + 9, Make.GONE + 7);
    }

    private static void passClosesAllFour() {
        due.says(5, "in their order: how many.");
        WatchTree x = Make.withSessions(4);
        for (int i = 0; i < 20; i++) {
            x.create(i % 4, i + 1, 0, 1);
        }
        due.is("pass(20)", x.pass(20), 4);
        due.is("state()", x.state(), 0);
        due.is("latest()", x.latest(), 28);
        due.is("node(0, 2)", x.node(0, 2), 40);
    }

    private static void leftToTheDeadline() {
        due.says(19, "The time left to a session's deadline; REFUSED if it is not open.");
        WatchTree x = new WatchTree();
        due.is("left(0) before it is open", x.left(0), WatchTree.REFUSED);
        x.open(20);
        for (int i = 20; i >= 1; i--) {
            due.is("left(0)", x.left(0), i);
            x.pass(1);
        }
        due.is("left(0) when closed", x.left(0), WatchTree.REFUSED);
        for (int session : Make.outside(0, 3)) {
            due.is("left(" + session + ")", x.left(session), WatchTree.REFUSED);
        }
    }
}
