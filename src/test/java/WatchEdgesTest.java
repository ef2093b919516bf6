/** The boundary cases of promises 12 to 14 and 23 and of the term WATCHES, sentence by sentence. */
public final class WatchEdgesTest {
    private static final Due due = new Due();
    private static final int DEEPEST = Make.path(99, 99, 99);

    public static void main(String[] args) {
        watchRefused();
        watchKinds();
        watchNoPath();
        onlyOnNodesThatAreThere();
        hasItAlready();
        sixteen();
        sixteenOfAll();
        roomAgain();
        watchOrder();
        madeTells();
        setTells();
        goneTells();
        pathItselfThenParent();
        toldOnce();
        theseWatchesAreGone();
        othersStay();
        eventNumbers();
        eightEvents();
        ninthOfOneTransaction();
        eightOfTwenty();
        eightOfEachSession();
        eventRefused();
        goneWithItsSession();
        goneByCrash();
        watchAgain();
        due.end();
    }

    /** Nodes 1 and 1/0 and the line to the deepest one's parent, made by session 0; sessions 0 .. 3 are open. */
    private static WatchTree withTree() {
        WatchTree x = Make.withSessions(4);
        x.create(0, 1, 0, 0);
        x.create(0, Make.path(0, 0), 0, 0);
        x.create(0, Make.path(99), 0, 0);
        x.create(0, Make.path(99, 99), 0, 0);
        return x;
    }

    private static void watchAll(WatchTree x, int session, int path) {
        for (int kind = 0; kind < 3; kind++) {
            x.watch(session, kind, path);
        }
    }

    private static void watchRefused() {
        due.says(12, "REFUSED if the session is not open");
        WatchTree x = Make.withSessions(2);
        x.close(0);
        for (int session : new int[] {Integer.MIN_VALUE, Integer.MIN_VALUE + 1, -1, 0, 2, 3, 4, Integer.MAX_VALUE - 1, Integer.MAX_VALUE}) {
            for (int kind = 0; kind < 3; kind++) {
                due.is("watch(" + session + ", " + kind + ", 0)", x.watch(session, kind, 0), WatchTree.REFUSED);
            }
        }
        due.is("watches()", x.watches(), 0);
    }

    private static void watchKinds() {
        due.says(12, "or kind not 0 .. 2");
        WatchTree x = Make.withSessions(1);
        for (int kind : new int[] {Integer.MIN_VALUE, Integer.MIN_VALUE + 1, -1, 3, 4, Integer.MAX_VALUE - 1, Integer.MAX_VALUE}) {
            due.is("watch(0, " + kind + ", 0)", x.watch(0, kind, 0), WatchTree.REFUSED);
        }
        for (int kind = 0; kind < 3; kind++) {
            due.is("watch(0, " + kind + ", 0)", x.watch(0, kind, 0), 1);
            due.is("watches()", x.watches(), kind + 1);
        }
    }

    private static void watchNoPath() {
        due.says(12, "NO_PATH");
        WatchTree x = withTree();
        for (int path : Make.noPaths()) {
            for (int kind = 0; kind < 3; kind++) {
                due.is("watch(0, " + kind + ", " + path + ")", x.watch(0, kind, path), WatchTree.NO_PATH);
            }
        }
        due.is("watches()", x.watches(), 0);
    }

    private static void onlyOnNodesThatAreThere() {
        due.says(0, "Kinds: 0 DATA, 1 CHILDREN (both only on nodes that are there), 2 THERE (on any path).");
        WatchTree x = withTree();
        for (int path : new int[] {2, Make.path(0, 1), Make.path(4, 4), Make.path(4, 4, 4), DEEPEST}) {
            due.is("DATA of " + path, x.watch(0, 0, path), WatchTree.NO_NODE);
            due.is("CHILDREN of " + path, x.watch(0, 1, path), WatchTree.NO_NODE);
            due.is("THERE of " + path, x.watch(0, 2, path), 1);
        }
        for (int path : new int[] {0, 1, Make.path(0, 0)}) {
            for (int kind = 0; kind < 3; kind++) {
                due.is("kind " + kind + " of " + path, x.watch(0, kind, path), 1);
            }
        }
        due.is("watches()", x.watches(), 14);
        WatchTree y = withTree();
        y.remove(0, Make.path(0, 0), -1);
        due.is("DATA of what is gone", y.watch(0, 0, Make.path(0, 0)), WatchTree.NO_NODE);
        due.is("CHILDREN of what is gone", y.watch(0, 1, Make.path(0, 0)), WatchTree.NO_NODE);
        due.is("THERE of what is gone", y.watch(0, 2, Make.path(0, 0)), 1);
    }

    private static void hasItAlready() {
        due.says(12, "Leaves a watch: 1; 0 if the session has that one already.");
        WatchTree x = withTree();
        for (int kind = 0; kind < 3; kind++) {
            due.is("watch(0, " + kind + ", 1)", x.watch(0, kind, 1), 1);
            due.is("once more", x.watch(0, kind, 1), 0);
            due.is("of another session", x.watch(1, kind, 1), 1);
            due.is("of another path", x.watch(0, kind, 0), 1);
        }
        due.is("watches()", x.watches(), 9);
        x.set(2, 1, 0, -1);
        due.is("it has told", x.watch(0, 0, 1), 1);
        due.is("it has not", x.watch(0, 1, 1), 0);
        due.is("watches()", x.watches(), 6);
    }

    private static void sixteen() {
        due.says(12, "FULL if there are 16.");
        WatchTree x = Make.withSessions(1);
        for (int i = 1; i <= 16; i++) {
            due.is("watch " + i, x.watch(0, 2, i), 1);
            due.is("watches()", x.watches(), i);
        }
        due.is("a 17th, THERE", x.watch(0, 2, 17), WatchTree.FULL);
        due.is("a 17th, DATA", x.watch(0, 0, 0), WatchTree.FULL);
        due.is("a 17th, CHILDREN", x.watch(0, 1, 0), WatchTree.FULL);
        due.is("watches()", x.watches(), 16);
    }

    private static void sixteenOfAll() {
        due.says(14, "How many watches there are.");
        WatchTree x = Make.withSessions(4);
        due.is("watches() at first", x.watches(), 0);
        for (int i = 1; i <= 4; i++) {
            for (int session = 0; session < 4; session++) {
                due.is("watch(" + session + ", 2, " + i + ")", x.watch(session, 2, i), 1);
            }
            due.is("watches()", x.watches(), 4 * i);
        }
        for (int session = 0; session < 4; session++) {
            due.is("a 17th of " + session, x.watch(session, 2, 5), WatchTree.FULL);
        }
        due.is("latest()", x.latest(), 4);
    }

    private static void roomAgain() {
        due.says(0, "it is gone when it tells, when its session closes, or by a crash.");
        WatchTree x = Make.withSessions(2);
        for (int i = 1; i <= 16; i++) {
            x.watch(i % 2, 2, i);
        }
        x.create(0, 1, 0, 0);
        due.is("watches() when one has told", x.watches(), 15);
        due.is("a new one", x.watch(0, 2, 17), 1);
        due.is("a 17th", x.watch(0, 2, 18), WatchTree.FULL);
        x.close(1);
        due.is("watches() when session 1 is closed", x.watches(), 9);
        for (int i = 20; i < 27; i++) {
            due.is("a new one", x.watch(0, 2, i), 1);
        }
        due.is("a 17th", x.watch(0, 2, 18), WatchTree.FULL);
        x.crash();
        due.is("watches() after a crash", x.watches(), 0);
        for (int i = 20; i < 36; i++) {
            due.is("a new one", x.watch(0, 2, i), 1);
        }
        due.is("a 17th", x.watch(0, 2, 18), WatchTree.FULL);
    }

    private static void watchOrder() {
        due.says(23, "watch: tested in the order REFUSED, NO_PATH, NO_NODE, 0 (it has it already), FULL.");
        for (int full = 0; full < 2; full++) {
            WatchTree x = Make.withSessions(2);
            x.close(1);
            for (int i = 1; i <= 15 + full; i++) {
                x.watch(0, 2, i);
            }
            due.is("not open, no path", x.watch(1, 0, 101), WatchTree.REFUSED);
            due.is("not open, no node", x.watch(1, 0, 60), WatchTree.REFUSED);
            due.is("not open, another's watch", x.watch(1, 2, 1), WatchTree.REFUSED);
            due.is("not open", x.watch(1, 2, 60), WatchTree.REFUSED);
            due.is("no kind, no path", x.watch(0, 3, -1), WatchTree.REFUSED);
            due.is("no kind, no node", x.watch(0, -1, 60), WatchTree.REFUSED);
            due.is("no path, no node", x.watch(0, 0, 101), WatchTree.NO_PATH);
            due.is("no path, no node", x.watch(0, 1, -1), WatchTree.NO_PATH);
            due.is("no path", x.watch(0, 2, 1030301), WatchTree.NO_PATH);
            due.is("no node, DATA", x.watch(0, 0, 60), WatchTree.NO_NODE);
            due.is("no node, CHILDREN", x.watch(0, 1, 60), WatchTree.NO_NODE);
            due.is("no node, but THERE of it is left", x.watch(0, 0, 1), WatchTree.NO_NODE);
            due.is("it has it", x.watch(0, 2, 15), 0);
            due.is("it has it not", x.watch(0, 2, 60), full == 1 ? WatchTree.FULL : 1);
        }
    }

    private static void madeTells() {
        due.says(0, "made: THERE of it; then, that its parent's children changed: CHILDREN of the parent.");
        int[] made = {2, Make.path(0, 1), DEEPEST};
        for (int path : made) {
            WatchTree x = withTree();
            x.watch(0, 2, path);
            x.watch(1, 0, path / 101);
            x.watch(2, 1, path / 101);
            x.watch(3, 2, path / 101);
            x.create(0, path, 0, 0);
            due.events(x, 0, Make.MADE + path);
            due.events(x, 1);
            due.events(x, 2, Make.CHILDREN + path / 101);
            due.events(x, 3);
            due.is("watches()", x.watches(), 2);
        }
        WatchTree y = withTree();
        y.watch(0, 2, Make.path(2));
        y.watch(0, 2, 60);
        due.is("a numbered one", y.create(0, 60, 0, 3), Make.path(2));
        due.events(y, 0, Make.MADE + Make.path(2));
    }

    private static void setTells() {
        due.says(0, "set: DATA and THERE of it.");
        for (int path : new int[] {0, 1, Make.path(0, 0)}) {
            WatchTree x = withTree();
            for (int kind = 0; kind < 3; kind++) {
                x.watch(kind, kind, path);
                if (path != 0) {
                    x.watch(3, kind, path / 101);
                }
            }
            x.set(0, path, 0, -1);
            due.events(x, 0, Make.SET + path);
            due.events(x, 1);
            due.events(x, 2, Make.SET + path);
            due.events(x, 3);
            due.is("watches()", x.watches(), path == 0 ? 1 : 4);
        }
    }

    private static void goneTells() {
        due.says(0, "gone: DATA, CHILDREN and THERE of it; then CHILDREN of the parent.");
        for (int kind = 0; kind < 3; kind++) {
            for (int closes = 0; closes < 2; closes++) {
                WatchTree x = withTree();
                x.create(1, 50, 0, 1);
                x.watch(2, kind, 50);
                x.watch(3, kind, 0);
                if (closes == 1) {
                    x.close(1);
                } else {
                    x.remove(0, 50, -1);
                }
                due.events(x, 2, Make.GONE + 50);
                if (kind == 1) {
                    due.events(x, 3, Make.CHILDREN);
                } else {
                    due.events(x, 3);
                }
                due.is("watches()", x.watches(), kind == 1 ? 0 : 1);
            }
        }
    }

    private static void pathItselfThenParent() {
        due.says(0, "For each of these (the path itself; then the parent)");
        WatchTree x = withTree();
        int path = Make.path(0, 1);
        x.watch(1, 1, 1);
        x.watch(1, 2, path);
        x.create(0, path, 0, 0);
        due.events(x, 1, Make.MADE + path, Make.CHILDREN + 1);
        x.watch(1, 1, 1);
        x.watch(1, 0, path);
        x.remove(0, path, -1);
        due.events(x, 1, Make.GONE + path, Make.CHILDREN + 1);
    }

    private static void toldOnce() {
        due.says(0, "each session with such watches is told once, in the order of the sessions, and these watches are gone.");
        WatchTree x = withTree();
        int path = Make.path(0, 0);
        for (int session = 3; session >= 0; session--) {
            watchAll(x, session, path);
        }
        x.set(0, path, 0, -1);
        for (int session = 0; session < 4; session++) {
            due.events(x, session, Make.SET + path);
        }
        due.is("the four of CHILDREN are left", x.watches(), 4);
        for (int session = 3; session >= 0; session--) {
            watchAll(x, session, path);
        }
        x.remove(0, path, -1);
        for (int session = 0; session < 4; session++) {
            due.events(x, session, Make.GONE + path);
        }
        due.is("watches()", x.watches(), 0);
    }

    private static void theseWatchesAreGone() {
        due.says(0, "A session may leave a watch on a path; it is gone when it tells");
        WatchTree x = withTree();
        x.watch(1, 0, 1);
        x.set(0, 1, 0, -1);
        x.set(0, 1, 0, -1);
        due.events(x, 1, Make.SET + 1);
        x.watch(1, 1, 0);
        x.create(0, 50, 0, 0);
        x.create(0, 51, 0, 0);
        due.events(x, 1, Make.CHILDREN);
        x.watch(1, 2, 52);
        x.create(0, 52, 0, 0);
        x.remove(0, 52, -1);
        due.events(x, 1, Make.MADE + 52);
        due.is("watches()", x.watches(), 0);
    }

    private static void othersStay() {
        due.says(0, "What happens to a path, with the watches that tell of it");
        WatchTree x = withTree();
        watchAll(x, 1, 1);
        watchAll(x, 1, Make.path(0, 0));
        watchAll(x, 1, Make.path(99));
        // Two levels below the root and beside: none of the root's or of node 1's own is touched but CHILDREN.
        x.create(0, Make.path(0, 0, 0), 0, 0);
        due.events(x, 1, Make.CHILDREN + Make.path(0, 0));
        x.set(0, Make.path(0, 0, 0), 0, -1);
        x.set(0, 0, 0, -1);
        x.create(0, 50, 0, 0);
        x.remove(0, Make.path(0, 0, 0), -1);
        due.events(x, 1);
        due.is("watches()", x.watches(), 8);
    }

    private static void eventNumbers() {
        due.says(0, "An EVENT is the path + 2^21 * (1 made, 2 gone, 3 set, 4 children changed).");
        WatchTree x = withTree();
        x.watch(1, 2, DEEPEST);
        x.create(0, DEEPEST, 0, 0);
        due.is("made", x.event(1), 2097152 + 1030300);
        x.watch(1, 0, DEEPEST);
        x.set(0, DEEPEST, 0, -1);
        due.is("set", x.event(1), 6291456 + 1030300);
        x.watch(1, 1, DEEPEST);
        x.watch(1, 1, Make.path(99, 99));
        x.remove(0, DEEPEST, -1);
        due.is("gone", x.event(1), 4194304 + 1030300);
        due.is("children changed", x.event(1), 8388608 + 10200);
        x.watch(1, 0, 0);
        x.watch(1, 1, 0);
        x.set(0, 0, 0, -1);
        x.create(0, 50, 0, 0);
        due.is("the root set", x.event(1), 6291456);
        due.is("the root's children changed", x.event(1), 8388608);
    }

    private static void eightEvents() {
        due.says(0, "A session's events wait in their order, 8 at most (later ones are lost).");
        WatchTree x = Make.withSessions(2);
        for (int i = 1; i <= 9; i++) {
            x.watch(1, 2, i);
            x.create(0, i, 0, 0);
        }
        due.is("the watch of the ninth is gone", x.watches(), 0);
        for (int i = 1; i <= 8; i++) {
            due.is("event(1), number " + i, x.event(1), Make.MADE + i);
        }
        due.is("the ninth is lost", x.event(1), WatchTree.REFUSED);
        for (int i = 1; i <= 8; i++) {
            x.watch(1, 0, i);
            x.set(0, i, 0, -1);
        }
        due.is("the first is taken", x.event(1), Make.SET + 1);
        x.watch(1, 0, 9);
        x.set(0, 9, 0, -1);
        x.watch(1, 0, 0);
        x.set(0, 0, 0, -1);
        due.events(x, 1, Make.SET + 2, Make.SET + 3, Make.SET + 4, Make.SET + 5, Make.SET + 6, Make.SET + 7,
            Make.SET + 8, Make.SET + 9);
    }

    private static void ninthOfOneTransaction() {
        due.says(0, "8 at most (later ones are lost)");
        WatchTree x = Make.withSessions(2);
        for (int i = 1; i <= 7; i++) {
            x.watch(1, 2, i);
            x.create(0, i, 0, 0);
        }
        x.watch(1, 1, 0);
        x.watch(1, 2, 8);
        x.create(0, 8, 0, 0);
        due.is("watches()", x.watches(), 0);
        due.events(x, 1, Make.MADE + 1, Make.MADE + 2, Make.MADE + 3, Make.MADE + 4, Make.MADE + 5, Make.MADE + 6,
            Make.MADE + 7, Make.MADE + 8);
    }

    private static void eightOfTwenty() {
        due.says(0, "the nodes that go with a session, tell in their order");
        WatchTree x = Make.withSessions(2);
        for (int i = 1; i <= 20; i++) {
            x.create(0, i, 0, 1);
        }
        for (int i = 20; i >= 5; i--) {
            x.watch(1, i % 3, i);
        }
        due.is("close(0)", x.close(0), 20);
        due.is("watches()", x.watches(), 0);
        due.events(x, 1, Make.GONE + 20, Make.GONE + 19, Make.GONE + 18, Make.GONE + 17, Make.GONE + 16,
            Make.GONE + 15, Make.GONE + 14, Make.GONE + 13);
        WatchTree y = Make.withSessions(2);
        for (int i = 1; i <= 20; i++) {
            y.create(0, i, 0, 1);
        }
        y.watch(1, 2, 1);
        y.watch(1, 2, 20);
        y.close(0);
        // The last of 20 to go is told of as well as the first.
        due.events(y, 1, Make.GONE + 20, Make.GONE + 1);
    }

    private static void eightOfEachSession() {
        due.says(0, "A session's events wait in their order, 8 at most");
        WatchTree x = Make.withSessions(4);
        for (int i = 0; i < 9; i++) {
            for (int session = 0; session < 4; session++) {
                if (i >= session) {
                    x.watch(session, 0, 0);
                }
            }
            x.set(0, 0, 0, -1);
        }
        int[] waiting = {8, 8, 7, 6};
        for (int session = 3; session >= 0; session--) {
            for (int i = 0; i < waiting[session]; i++) {
                due.is("event(" + session + ")", x.event(session), Make.SET);
            }
            due.is("event(" + session + ") at the end", x.event(session), WatchTree.REFUSED);
        }
    }

    private static void eventRefused() {
        due.says(13, "Takes the session's first event away and answers it; REFUSED if there is none, or the session is not open.");
        WatchTree x = Make.withSessions(2);
        for (int session : new int[] {Integer.MIN_VALUE, Integer.MIN_VALUE + 1, -1, 0, 1, 2, 3, 4, Integer.MAX_VALUE - 1, Integer.MAX_VALUE}) {
            due.is("event(" + session + ")", x.event(session), WatchTree.REFUSED);
        }
        x.watch(1, 0, 0);
        x.set(0, 0, 0, -1);
        due.is("another's", x.event(0), WatchTree.REFUSED);
        due.is("its own", x.event(1), Make.SET);
        due.is("it is taken away", x.event(1), WatchTree.REFUSED);
        x.watch(1, 0, 0);
        x.set(0, 0, 0, -1);
        x.close(1);
        due.is("when closed", x.event(1), WatchTree.REFUSED);
    }

    private static void goneWithItsSession() {
        due.says(0, "it is gone when it tells, when its session closes");
        for (int byTime = 0; byTime < 2; byTime++) {
            WatchTree x = new WatchTree();
            x.open(20);
            x.open(5);
            watchAll(x, 0, 0);
            watchAll(x, 1, 0);
            if (byTime == 1) {
                x.pass(5);
            } else {
                x.close(1);
            }
            due.is("watches()", x.watches(), 3);
            x.open(5);
            x.set(0, 0, 0, -1);
            due.events(x, 1);
            due.events(x, 0, Make.SET);
            due.is("the new one may leave them", x.watch(1, 0, 0), 1);
        }
    }

    private static void goneByCrash() {
        due.says(0, "or by a crash.");
        WatchTree x = withTree();
        for (int session = 0; session < 4; session++) {
            watchAll(x, session, 1);
        }
        x.crash();
        due.is("watches()", x.watches(), 0);
        x.set(0, 1, 0, -1);
        for (int session = 0; session < 4; session++) {
            due.events(x, session);
            due.is("it has none any more", x.watch(session, 0, 1), 1);
        }
    }

    private static void watchAgain() {
        due.says(12, "Leaves a watch: 1");
        WatchTree x = withTree();
        for (int i = 1; i <= 5; i++) {
            due.is("watch(1, 0, 1)", x.watch(1, 0, 1), 1);
            x.set(0, 1, 0, -1);
            due.is("event(1)", x.event(1), Make.SET + 1);
        }
        due.is("with none left", x.event(1), WatchTree.REFUSED);
    }
}
