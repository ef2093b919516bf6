/** Promises 12 to 14, with what 23 says of them: watch, event, watches. */
public final class WatchesTest {
    private static final Due due = new Due();

    public static void main(String[] args) {
        watch();
        watchOrder();
        whatTells();
        setTells();
        goneTells();
        toldOncePerPath();
        eventsAreEight();
        eventRefused();
        watchesGoWithTheirSession();
        watchesGoByCrash();
        due.end();
    }

    private static void watch() {
        WatchTree x = Make.withSessions(2);
        x.create(0, 1, 0, 0);
        for (int session : new int[] {-1, 2, 4, Integer.MIN_VALUE, Integer.MAX_VALUE}) {
            due.is(12, "watch of session " + session, x.watch(session, 2, 1), WatchTree.REFUSED);
        }
        for (int kind : new int[] {-1, 3, Integer.MIN_VALUE, Integer.MAX_VALUE}) {
            due.is(12, "watch of kind " + kind, x.watch(0, kind, 1), WatchTree.REFUSED);
        }
        for (int path : new int[] {-1, 101, 10201, 10202, 1030301, Integer.MIN_VALUE, Integer.MAX_VALUE}) {
            for (int kind = 0; kind < 3; kind++) {
                due.is(12, "watch of path " + path, x.watch(0, kind, path), WatchTree.NO_PATH);
            }
        }
        due.is(12, "DATA, not there", x.watch(0, 0, 2), WatchTree.NO_NODE);
        due.is(12, "CHILDREN, not there", x.watch(0, 1, 2), WatchTree.NO_NODE);
        due.is(14, "watches()", x.watches(), 0);
        due.is(12, "THERE, not there", x.watch(0, 2, 2), 1);
        due.is(12, "THERE, no parent", x.watch(0, 2, 1030300), 1);
        for (int kind = 0; kind < 3; kind++) {
            due.is(12, "kind " + kind, x.watch(0, kind, 1), 1);
            due.is(12, "kind " + kind + " again", x.watch(0, kind, 1), 0);
            due.is(12, "kind " + kind + " of another", x.watch(1, kind, 1), 1);
            due.is(12, "kind " + kind + " of the root", x.watch(0, kind, 0), 1);
        }
        due.is(14, "watches()", x.watches(), 11);
        due.is(12, "watching is no transaction", x.latest(), 3);
        WatchTree y = Make.withFullLog();
        due.is(12, "watch with a full log", y.watch(0, 0, 0), 1);
    }

    private static void watchOrder() {
        WatchTree x = Make.withSessions(1);
        for (int i = 1; i <= 16; i++) {
            due.is(12, "watch " + i, x.watch(0, 2, i), 1);
        }
        due.is(12, "a 17th", x.watch(0, 2, 17), WatchTree.FULL);
        due.is(12, "a 17th on the root", x.watch(0, 0, 0), WatchTree.FULL);
        due.is(23, "REFUSED before FULL", x.watch(1, 2, 17), WatchTree.REFUSED);
        due.is(23, "REFUSED before NO_PATH", x.watch(0, 3, 101), WatchTree.REFUSED);
        due.is(23, "NO_PATH before FULL", x.watch(0, 0, 101), WatchTree.NO_PATH);
        due.is(23, "NO_NODE before FULL", x.watch(0, 0, 17), WatchTree.NO_NODE);
        due.is(23, "0 before FULL", x.watch(0, 2, 16), 0);
        due.is(14, "watches()", x.watches(), 16);
        x.create(0, 3, 0, 0);
        due.is(14, "watches()", x.watches(), 15);
        due.is(12, "the place is free again", x.watch(0, 2, 17), 1);
        due.is(14, "watches()", x.watches(), 16);
    }

    private static void whatTells() {
        WatchTree x = Make.withSessions(2);
        x.create(0, 1, 0, 0);
        for (int kind = 0; kind < 3; kind++) {
            x.watch(0, kind, 0);
            x.watch(0, kind, 1);
        }
        x.watch(1, 2, Make.path(0, 0));
        x.watch(1, 2, Make.path(0, 1));
        x.create(1, Make.path(0, 0), 0, 0);
        due.events(12, x, 0, Make.CHILDREN + 1);
        due.events(12, x, 1, Make.MADE + Make.path(0, 0));
        due.is(14, "watches()", x.watches(), 6);
        // What is wrong tells nothing.
        x.create(1, Make.path(0, 0), 0, 0);
        x.set(1, 1, 0, 9);
        x.remove(1, 1, -1);
        due.events(12, x, 0);
        due.is(14, "watches()", x.watches(), 6);
        x.create(1, 2, 0, 0);
        due.events(12, x, 0, Make.CHILDREN);
        due.is(14, "watches()", x.watches(), 5);
    }

    private static void setTells() {
        WatchTree x = Make.withSessions(3);
        x.create(0, 1, 0, 0);
        x.create(0, Make.path(0, 0), 0, 0);
        x.watch(2, 0, 1);
        x.watch(1, 2, 1);
        x.watch(0, 1, 1);
        x.watch(0, 1, 0);
        x.watch(0, 0, 0);
        x.watch(0, 0, Make.path(0, 0));
        x.set(0, 1, 0, -1);
        due.events(12, x, 0);
        due.events(12, x, 1, Make.SET + 1);
        due.events(12, x, 2, Make.SET + 1);
        due.is(14, "watches()", x.watches(), 4);
        x.set(0, 1, 0, -1);
        due.events(12, x, 1);
        x.set(1, 0, 0, -1);
        due.events(12, x, 0, Make.SET);
        due.is(14, "watches()", x.watches(), 3);
    }

    private static void goneTells() {
        for (int kind = 0; kind < 3; kind++) {
            WatchTree x = Make.withSessions(2);
            x.create(0, 1, 0, 0);
            x.create(0, Make.path(0, 0), 0, 0);
            x.watch(1, kind, Make.path(0, 0));
            x.watch(1, kind, 1);
            x.watch(1, kind, 0);
            x.remove(0, Make.path(0, 0), -1);
            if (kind == 1) {
                due.events(12, x, 1, Make.GONE + Make.path(0, 0), Make.CHILDREN + 1);
            } else {
                due.events(12, x, 1, Make.GONE + Make.path(0, 0));
            }
            due.is(14, "watches()", x.watches(), kind == 1 ? 1 : 2);
        }
    }

    private static void toldOncePerPath() {
        WatchTree x = Make.withSessions(4);
        x.create(0, 1, 0, 0);
        for (int session = 3; session >= 0; session--) {
            for (int kind = 0; kind < 3; kind++) {
                x.watch(session, kind, 1);
            }
            x.watch(session, 1, 0);
        }
        due.is(14, "watches()", x.watches(), 16);
        x.remove(2, 1, -1);
        for (int session = 0; session < 4; session++) {
            due.events(13, x, session, Make.GONE + 1, Make.CHILDREN);
        }
        due.is(14, "watches()", x.watches(), 0);
    }

    private static void eventsAreEight() {
        WatchTree x = Make.withSessions(2);
        for (int i = 1; i <= 10; i++) {
            x.watch(0, 2, i);
        }
        for (int i = 1; i <= 10; i++) {
            x.create(1, i, 0, 0);
        }
        due.is(14, "a watch whose event is lost is gone", x.watches(), 0);
        due.is(13, "event(0)", x.event(0), Make.MADE + 1);
        x.watch(0, 0, 0);
        x.watch(0, 1, 0);
        x.set(1, 0, 0, -1);
        x.create(1, 11, 0, 0);
        due.events(13, x, 0, Make.MADE + 2, Make.MADE + 3, Make.MADE + 4, Make.MADE + 5, Make.MADE + 6,
            Make.MADE + 7, Make.MADE + 8, Make.SET);
        x.watch(0, 0, 0);
        x.set(1, 0, 0, -1);
        due.events(13, x, 0, Make.SET);
    }

    private static void eventRefused() {
        WatchTree x = Make.withSessions(2);
        for (int session : new int[] {-1, 0, 1, 2, 3, 4, Integer.MIN_VALUE, Integer.MAX_VALUE}) {
            due.is(13, "event(" + session + ")", x.event(session), WatchTree.REFUSED);
        }
        int deepest = Make.path(99, 99, 99);
        x.create(0, 100, 0, 0);
        x.create(0, Make.path(99, 99), 0, 0);
        x.watch(1, 2, deepest);
        x.create(0, deepest, 0, 0);
        due.is(13, "another session has none", x.event(0), WatchTree.REFUSED);
        due.is(13, "event(1)", x.event(1), (1 << 21) + 1030300);
        due.is(13, "it is taken away", x.event(1), WatchTree.REFUSED);
        x.watch(1, 0, 0);
        x.set(0, 0, 0, -1);
        x.close(1);
        due.is(13, "of a closed session", x.event(1), WatchTree.REFUSED);
        x.open(5);
        due.is(13, "opened again", x.event(1), WatchTree.REFUSED);
    }

    private static void watchesGoWithTheirSession() {
        WatchTree x = Make.withSessions(2);
        x.watch(0, 2, 1);
        x.watch(1, 2, 1);
        x.watch(1, 1, 0);
        x.close(1);
        due.is(14, "watches()", x.watches(), 1);
        x.open(20);
        x.create(0, 1, 0, 0);
        due.events(13, x, 1);
        due.events(13, x, 0, Make.MADE + 1);
        x.watch(1, 0, 1);
        x.touch(0);
        x.pass(19);
        x.touch(0);
        due.is(5, "pass(1)", x.pass(1), 1);
        due.is(14, "watches()", x.watches(), 0);
    }

    private static void watchesGoByCrash() {
        WatchTree x = Make.withSessions(1);
        x.watch(0, 2, 1);
        x.watch(0, 0, 0);
        x.set(0, 0, 0, -1);
        x.crash();
        due.is(14, "watches()", x.watches(), 0);
        due.events(13, x, 0);
        x.create(0, 1, 0, 0);
        due.events(13, x, 0);
    }
}
