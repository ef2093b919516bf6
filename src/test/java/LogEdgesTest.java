/** The boundary cases of promises 20 to 22 and of the terms LOG, SNAPSHOT and CRASH, sentence by sentence. */
public final class LogEdgesTest {
    private static final Due due = new Due();

    public static void main(String[] args) {
        logAtFirst();
        howManyTheLogHas();
        fortyOrMore();
        whatLogFullLeaves();
        closingIsNotLogFull();
        moreThanForty();
        savePlaces();
        savePlaceByPlace();
        placesAboveDoNotCount();
        theyStayUntilItIsComplete();
        sinceTheBeginningOfTheLatest();
        fortyAfterASnapshot();
        refusedSaveBeginsNone();
        crashTakesWatchesAndEvents();
        crashTakesWaitingParts();
        crashTakesTheSnapshotUnderWay();
        crashLeavesTheCompleteSnapshot();
        crashLeavesNodesSessionsAndNumbers();
        crashSetsEachDeadline();
        crashAnswersTheLog();
        crashOfEveryScene();
        due.end();
    }

    private static void logAtFirst() {
        due.says(0, "THE LOG keeps the transactions since the beginning of the latest complete SNAPSHOT (or since the first one).");
        WatchTree x = new WatchTree();
        due.is("logged() of a new object", x.logged(), 0);
        for (int i = 1; i <= 40; i++) {
            if (i == 1) {
                x.open(20);
            } else {
                x.set(0, 0, 0, -1);
            }
            due.is("logged()", x.logged(), i);
        }
    }

    private static void howManyTheLogHas() {
        due.says(21, "How many transactions the log has.");
        WatchTree x = new WatchTree();
        x.open(20);
        x.open(1);
        x.create(0, 1, 0, 1);
        x.create(0, 1, 0, 1);
        x.part(0, 2, 0, 0);
        x.part(0, 3, 0, 0);
        x.multi(0);
        due.is("two openings, a CREATE, a multi request", x.logged(), 4);
        due.is("pass(1)", x.pass(1), 1);
        due.is("a closing by time", x.logged(), 5);
        x.touch(0);
        x.watch(0, 0, 0);
        x.save(23);
        x.crash();
        due.is("none of these", x.logged(), 5);
        x.save(24);
        due.is("after a snapshot", x.logged(), 0);
        due.is("close(0)", x.close(0), 1);
        due.is("a closing with its node", x.logged(), 1);
    }

    private static void fortyOrMore() {
        due.says(0, "With 40 or more in it CREATE, SET, REMOVE, multi requests and open() are LOG_FULL");
        for (int logged = 38; logged <= 42; logged++) {
            for (int call = 0; call < 5; call++) {
                WatchTree x = withLogged(logged);
                due.is("logged()", x.logged(), logged);
                long got = callOfFive(x, call);
                due.is("the call " + call + " with " + logged, got == WatchTree.LOG_FULL, logged >= 40);
                due.is("the call " + call + " with " + logged + " is done", got >= 0, logged < 40);
                due.is("logged()", x.logged(), logged < 40 ? logged + 1 : logged);
            }
        }
    }

    /** Session 0 is open and node 1 is there; above 40 it is other sessions' closing that fills the log. */
    private static WatchTree withLogged(int logged) {
        WatchTree x = Make.withSessions(3);
        x.create(0, 1, 0, 0);
        Make.fillLog(x, Math.min(logged, 40));
        for (int i = 40; i < logged; i++) {
            x.close(i - 39);
        }
        return x;
    }

    private static long callOfFive(WatchTree x, int call) {
        switch (call) {
            case 0:
                return x.create(0, 2, 0, 0);
            case 1:
                return x.set(0, 1, 0, -1);
            case 2:
                return x.remove(0, 1, -1);
            case 3:
                x.part(3, 0, 0, -1);
                return x.multi(0);
            default:
                return x.open(20);
        }
    }

    private static void whatLogFullLeaves() {
        due.says(0, "are LOG_FULL (closing is not)");
        WatchTree x = withLogged(40);
        due.is("touch(0)", x.touch(0), true);
        due.is("pass(1)", x.pass(1), 0);
        due.is("part", x.part(0, 2, 0, 0), 1);
        due.is("watch(0, 0, 0)", x.watch(0, 0, 0), 1);
        due.is("event(0)", x.event(0), WatchTree.REFUSED);
        due.is("node(1, 0)", x.node(1, 0), 0);
        due.is("child(0, 0)", x.child(0, 0), 1);
        due.is("state()", x.state(), 7 + 16);
        due.is("left(0)", x.left(0), 19);
        due.is("save(1)", x.save(1), 23);
        due.is("logged()", x.logged(), 40);
        due.is("crash()", x.crash(), 40);
        due.is("latest()", x.latest(), 40);
    }

    private static void closingIsNotLogFull() {
        due.says(0, "are LOG_FULL (closing is not)");
        WatchTree x = Make.withSessions(4);
        x.create(1, 1, 0, 1);
        x.create(1, 2, 0, 1);
        x.watch(0, 2, 1);
        Make.fillLog(x, 40);
        due.is("close(1)", x.close(1), 2);
        due.is("logged()", x.logged(), 41);
        due.is("state()", x.state(), 13);
        due.is("event(0)", x.event(0), Make.GONE + 1);
        due.is("pass(20)", x.pass(20), 3);
        due.is("logged()", x.logged(), 44);
        due.is("latest()", x.latest(), 44);
    }

    private static void moreThanForty() {
        due.says(0, "With 40 or more in it");
        WatchTree x = Make.withSessions(4);
        Make.fillLog(x, 40);
        x.pass(20);
        due.is("logged()", x.logged(), 44);
        due.is("open(20)", x.open(20), WatchTree.LOG_FULL);
        due.is("crash()", x.crash(), 44);
        due.is("open(20) after a crash", x.open(20), WatchTree.LOG_FULL);
        due.is("save(24)", x.save(24), 0);
        due.is("logged()", x.logged(), 0);
        due.is("open(20)", x.open(20), 0);
        due.is("latest()", x.latest(), 45);
    }

    private static void savePlaces() {
        due.says(20, "The snapshot takes n more places (1 .. 24, else REFUSED; beginning one if none is under way): how many are left");
        for (int n = -3; n <= 28; n++) {
            WatchTree x = Make.withSessions(1);
            due.is("save(" + n + ")", x.save(n), n >= 1 && n <= 24 ? 24 - n : WatchTree.REFUSED);
            due.is("logged()", x.logged(), n == 24 ? 0 : 1);
        }
        for (int first = 1; first <= 23; first++) {
            for (int second = 1; second <= 24; second++) {
                WatchTree x = new WatchTree();
                x.save(first);
                due.is("save(" + second + ") after save(" + first + ")", x.save(second), Math.max(24 - first - second, 0));
            }
        }
        WatchTree y = new WatchTree();
        y.save(7);
        for (int n : new int[] {Integer.MIN_VALUE, Integer.MIN_VALUE + 1, -24, -1, 0, 25, Integer.MAX_VALUE - 1, Integer.MAX_VALUE}) {
            due.is("save(" + n + ") under way", y.save(n), WatchTree.REFUSED);
        }
        due.is("save(1)", y.save(1), 16);
    }

    private static void savePlaceByPlace() {
        due.says(0, "A snapshot is taken place by place, 24 places in all");
        WatchTree x = Make.withSessions(1);
        for (int round = 0; round < 2; round++) {
            for (int left = 23; left >= 1; left--) {
                due.is("save(1)", x.save(1), left);
                due.is("logged()", x.logged(), 1);
            }
            due.is("save(1), the last", x.save(1), 0);
            due.is("logged()", x.logged(), 0);
            x.set(0, 0, 0, -1);
        }
    }

    private static void placesAboveDoNotCount() {
        due.says(20, "0 if it is complete now (places above 24 do not count for the next one).");
        for (int first = 1; first <= 23; first++) {
            WatchTree x = Make.withSessions(1);
            x.save(first);
            due.is("save(24) with " + (24 - first) + " left", x.save(24), 0);
            due.is("logged()", x.logged(), 0);
            x.set(0, 0, 0, -1);
            due.is("the next begins with none", x.save(1), 23);
            due.is("logged()", x.logged(), 1);
            due.is("save(23)", x.save(23), 0);
            due.is("logged()", x.logged(), 0);
        }
    }

    private static void theyStayUntilItIsComplete() {
        due.says(0, "at its beginning the transactions so far no longer belong to it, but they stay in the log until it is complete.");
        WatchTree x = Make.withSessions(1);
        Make.fillLog(x, 39);
        due.is("save(1)", x.save(1), 23);
        due.is("logged()", x.logged(), 39);
        x.set(0, 0, 0, -1);
        due.is("save(22)", x.save(22), 1);
        due.is("logged()", x.logged(), 40);
        due.is("set with 1 place left", x.set(0, 0, 0, -1), WatchTree.LOG_FULL);
        due.is("save(1)", x.save(1), 0);
        due.is("logged(), the one since its beginning", x.logged(), 1);
        due.is("set", x.set(0, 0, 0, -1), 40);
    }

    private static void sinceTheBeginningOfTheLatest() {
        due.says(0, "THE LOG keeps the transactions since the beginning of the latest complete SNAPSHOT");
        WatchTree x = Make.withSessions(1);
        for (int round = 1; round <= 5; round++) {
            x.save(10);
            for (int i = 0; i < round; i++) {
                x.set(0, 0, 0, -1);
            }
            x.save(10);
            x.close(0);
            x.open(20);
            due.is("logged() before it is complete", x.logged(), round == 1 ? 4 : 2 * round + 3);
            x.save(4);
            due.is("logged() since its beginning", x.logged(), round + 2);
        }
        x.save(24);
        due.is("a snapshot at once", x.logged(), 0);
        x.save(24);
        due.is("and another", x.logged(), 0);
    }

    private static void fortyAfterASnapshot() {
        due.says(0, "With 40 or more in it");
        WatchTree x = Make.withSessions(2);
        x.save(24);
        x.save(1);
        Make.fillLog(x, 40);
        due.is("set", x.set(0, 0, 0, -1), WatchTree.LOG_FULL);
        x.close(1);
        due.is("save(23): all 41 are since its beginning", x.save(23), 0);
        due.is("logged()", x.logged(), 41);
        due.is("set", x.set(0, 0, 0, -1), WatchTree.LOG_FULL);
        due.is("save(24)", x.save(24), 0);
        due.is("set", x.set(0, 0, 0, -1), 41);
    }

    private static void refusedSaveBeginsNone() {
        due.says(20, "(1 .. 24, else REFUSED; beginning one if none is under way)");
        for (int n : new int[] {0, 25, -1, Integer.MIN_VALUE, Integer.MAX_VALUE}) {
            WatchTree x = Make.withSessions(1);
            x.save(n);
            x.set(0, 0, 0, -1);
            due.is("save(24) after save(" + n + ")", x.save(24), 0);
            due.is("logged(): it has begun now", x.logged(), 0);
        }
    }

    private static void crashTakesWatchesAndEvents() {
        due.says(0, "A CRASH takes watches, events");
        WatchTree x = Scene.CROWDED.make();
        due.is("watches() before", x.watches(), 16);
        x.crash();
        due.is("watches()", x.watches(), 0);
        for (int session = 0; session < 4; session++) {
            due.events(x, session);
        }
        x.set(0, 1, 0, -1);
        for (int session = 0; session < 4; session++) {
            due.events(x, session);
        }
        x.watch(0, 0, 0);
        x.set(1, 0, 0, -1);
        due.events(x, 0, Make.SET);
    }

    private static void crashTakesWaitingParts() {
        due.says(0, "the parts of a multi request that wait");
        for (int n = 1; n <= 6; n++) {
            WatchTree x = Make.withSessions(1);
            for (int i = 0; i < n; i++) {
                x.part(0, 1 + i, 0, 0);
            }
            x.crash();
            due.is("multi(0), none waits", x.multi(0), WatchTree.REFUSED);
            for (int i = 1; i <= 6; i++) {
                due.is("part", x.part(0, 50 + i, 0, 0), i);
            }
            due.is("multi(0)", x.multi(0), 2);
            due.is("state()", x.state(), 1 + 16 * 6);
        }
    }

    private static void crashTakesTheSnapshotUnderWay() {
        due.says(0, "and a snapshot that is not complete");
        for (int taken = 1; taken <= 23; taken++) {
            WatchTree x = Make.withSessions(1);
            x.save(taken);
            x.set(0, 0, 0, -1);
            due.is("crash()", x.crash(), 2);
            due.is("logged()", x.logged(), 2);
            due.is("save(1) begins one", x.save(1), 23);
            x.set(0, 0, 0, -1);
            due.is("save(23)", x.save(23), 0);
            due.is("logged(), since the second's beginning", x.logged(), 1);
        }
    }

    private static void crashLeavesTheCompleteSnapshot() {
        due.says(22, "A crash, from which all is made anew from the snapshot and the log");
        WatchTree x = Make.withNodes(3);
        x.save(24);
        x.set(0, 1, 5, -1);
        x.save(20);
        x.remove(0, 2, -1);
        due.is("crash()", x.crash(), 2);
        due.is("logged()", x.logged(), 2);
        due.node(x, 1, 5, 1, 0, 2, 5, -1, 0);
        due.is("node(2, 0)", x.node(2, 0), WatchTree.NOTHING);
        due.node(x, 3, 0, 0, 0, 4, 4, -1, 0);
        due.node(x, 0, 0, 0, 4, 0, 0, -1, 2);
        x.save(4);
        x.save(19);
        due.is("logged()", x.logged(), 2);
        x.save(1);
        due.is("logged()", x.logged(), 0);
    }

    private static void crashLeavesNodesSessionsAndNumbers() {
        due.says(0, "all nodes, sessions and numbers are as before");
        for (int saved = 0; saved < 3; saved++) {
            WatchTree x = Make.withSessions(4);
            x.create(0, 1, Integer.MIN_VALUE, 0);
            x.create(1, Make.path(0, 0), Integer.MAX_VALUE, 1);
            x.save(saved == 0 ? 1 : 24);
            x.set(2, 1, -1, 0);
            x.close(2);
            x.part(0, 60, 4, 3);
            x.part(1, 0, 6, 0);
            x.multi(3);
            x.save(saved == 2 ? 24 : 1);
            x.part(3, 0, 0, -1);
            x.part(3, 99, 0, -1);
            x.multi(0);
            x.crash();
            due.node(x, 0, 6, 1, 2, 0, 9, -1, 2);
            due.node(x, 1, -1, 1, 1, 5, 7, -1, 1);
            due.node(x, Make.path(0, 0), Integer.MAX_VALUE, 0, 0, 6, 6, 1, 0);
            due.node(x, Make.path(1), 4, 0, 0, 9, 9, 3, 0);
            due.is("state()", x.state(), 11 + 16 * 3);
            due.is("latest()", x.latest(), 9);
            due.is("logged()", x.logged(), saved == 0 ? 9 : saved == 1 ? 3 : 0);
            due.is("wrongPart()", x.wrongPart(), 1);
            due.is("the next number", x.open(5), 2);
            due.is("latest()", x.latest(), 10);
            due.is("close(3), its node goes with it", x.close(3), 1);
            due.is("the root's number 3", x.create(0, 60, 0, 2), Make.path(3));
        }
    }

    private static void crashSetsEachDeadline() {
        due.says(0, "and each deadline is the time + its session's timeout.");
        int[] timeouts = {20, 1, 7, 12};
        for (int passed : new int[] {0, 6, 19, 30}) {
            WatchTree x = new WatchTree();
            x.pass(5);
            for (int timeout : timeouts) {
                x.open(timeout);
            }
            int closed = x.pass(passed);
            int state = x.state();
            x.crash();
            due.is("state()", x.state(), state);
            int open = 0;
            for (int session = 0; session < 4; session++) {
                boolean isOpen = timeouts[session] > passed;
                open += isOpen ? 1 : 0;
                due.is("left(" + session + ") after " + passed, x.left(session), isOpen ? timeouts[session] : WatchTree.REFUSED);
            }
            due.is("the closed ones", closed, 4 - open);
            due.is("pass(19)", x.pass(19), passed < 20 ? open - 1 : 0);
            due.is("pass(1)", x.pass(1), passed < 20 ? 1 : 0);
            due.is("open(3) at the time", x.open(3), 0);
            due.is("left(0)", x.left(0), 3);
        }
    }

    private static void crashAnswersTheLog() {
        due.says(22, "how many transactions the log had.");
        due.is("crash() of a new object", new WatchTree().crash(), 0);
        WatchTree x = Make.withSessions(4);
        for (int i = 4; i <= 40; i++) {
            due.is("crash()", x.crash(), i);
            due.is("logged()", x.logged(), i);
            x.set(0, 0, 0, -1);
        }
        x.pass(20);
        due.is("crash()", x.crash(), 44);
        due.is("crash() again", x.crash(), 44);
        x.save(24);
        due.is("crash()", x.crash(), 0);
    }

    private static void crashOfEveryScene() {
        due.says(22, "A crash, from which all is made anew from the snapshot and the log");
        for (Scene scene : Scene.values()) {
            WatchTree x = scene.make();
            WatchTree y = scene.make();
            int logged = y.logged();
            due.is("crash() in " + scene, x.crash(), logged);
            due.is("state() in " + scene, x.state(), y.state());
            due.is("latest() in " + scene, x.latest(), y.latest());
            due.is("wrongPart() in " + scene, x.wrongPart(), y.wrongPart());
            for (int path : new int[] {0, 1, 2, 13, Make.path(0, 0), Make.path(1, 0), Make.path(0, 0, 0), Make.path(1, 0, 2)}) {
                for (int what = 0; what < 7; what++) {
                    due.is("node(" + path + ", " + what + ") in " + scene, x.node(path, what), y.node(path, what));
                }
            }
        }
    }
}
