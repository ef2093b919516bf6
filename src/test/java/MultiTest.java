/** Promises 9 to 11, with what 23 says of them: part, multi, wrongPart. */
public final class MultiTest {
    private static final Due due = new Due();

    public static void main(String[] args) {
        part();
        multi();
        eachPartSeesThoseBefore();
        allOrNothing();
        everyWrong();
        refusedAndLogFull();
        flagsOfParts();
        tellsWhenAllIsDone();
        due.end();
    }

    private static void part() {
        WatchTree x = Make.withSessions(1);
        for (int kind : new int[] {-1, 4, Integer.MIN_VALUE, Integer.MAX_VALUE}) {
            due.is(9, "part of kind " + kind, x.part(kind, 1, 0, 0), WatchTree.REFUSED);
        }
        for (int flags : new int[] {-1, 4, Integer.MIN_VALUE, Integer.MAX_VALUE}) {
            due.is(9, "part with flags " + flags, x.part(0, 1, 0, flags), WatchTree.REFUSED);
        }
        due.is(9, "flags are looked at in CREATE alone", x.part(1, 0, 0, -1), 1);
        due.is(9, "part(2, ..)", x.part(2, 0, 0, 99), 2);
        due.is(9, "part(3, ..)", x.part(3, -5, 0, -9), 3);
        due.is(9, "part(0, ..) with no path", x.part(0, -5, 0, 3), 4);
        due.is(9, "a fifth", x.part(0, 1, 0, 0), 5);
        due.is(9, "a sixth", x.part(0, 2, 0, 0), 6);
        due.is(9, "a seventh", x.part(0, 3, 0, 0), WatchTree.REFUSED);
        due.is(9, "nothing is done yet", x.latest(), 1);
        x.crash();
        due.is(9, "none waits after a crash", x.part(0, 1, 0, 0), 1);
    }

    private static void multi() {
        WatchTree x = Make.withSessions(2);
        x.create(0, 9, 1, 0);
        x.part(0, 1, 11, 1);
        x.part(0, 2, 22, 2);
        x.part(1, 9, 99, 0);
        x.part(1, 0, 5, -1);
        x.part(3, 9, 123, 1);
        due.is(10, "multi(1)", x.multi(1), 4);
        due.is(11, "wrongPart()", x.wrongPart(), -1);
        due.is(10, "latest()", x.latest(), 4);
        due.is(10, "logged()", x.logged(), 4);
        due.node(10, x, 0, 5, 1, 3, 0, 4, -1, 3);
        due.node(10, x, 1, 11, 0, 0, 4, 4, 1, 0);
        due.node(10, x, Make.path(2), 22, 0, 0, 4, 4, -1, 0);
        due.node(10, x, 9, 99, 1, 0, 3, 4, -1, 0);
        due.is(10, "none waits then", x.multi(1), WatchTree.REFUSED);
        x.part(3, 0, 0, -1);
        due.is(10, "a check alone is a transaction", x.multi(0), 5);
        due.node(10, x, 0, 5, 1, 3, 0, 4, -1, 3);
    }

    private static void eachPartSeesThoseBefore() {
        WatchTree x = Make.withSessions(1);
        x.part(0, 1, 0, 0);
        x.part(0, Make.path(0, 5), 0, 2);
        x.part(0, Make.path(0, 5), 0, 3);
        x.part(2, Make.path(0, 0), 0, 0);
        x.part(0, Make.path(0, 5), 0, 2);
        x.part(1, 1, 7, 0);
        due.is(10, "multi(0)", x.multi(0), 2);
        due.node(10, x, 1, 7, 1, 4, 2, 2, -1, 2);
        due.is(10, "child(1, 0)", x.child(1, 0), Make.path(0, 1));
        due.is(10, "child(1, 1)", x.child(1, 1), Make.path(0, 3));
        x.part(2, Make.path(0, 1), 0, -1);
        x.part(2, Make.path(0, 3), 0, -1);
        x.part(2, 1, 0, 1);
        x.part(0, 1, 8, 0);
        x.part(3, 1, 0, 0);
        due.is(10, "multi(0)", x.multi(0), 3);
        due.node(10, x, 1, 8, 0, 0, 3, 3, -1, 0);
    }

    private static void allOrNothing() {
        WatchTree x = Make.withSessions(1);
        x.create(0, 1, 1, 0);
        x.create(0, Make.path(0, 0), 2, 1);
        x.watch(0, 2, 1);
        x.watch(0, 1, 0);
        x.watch(0, 0, Make.path(0, 0));
        x.part(2, Make.path(0, 0), 0, -1);
        x.part(1, 1, 50, 0);
        x.part(0, 5, 0, 1);
        x.part(2, 1, 0, -1);
        x.part(1, 0, 50, -1);
        x.part(3, 0, 0, 7);
        due.is(10, "multi(0)", x.multi(0), WatchTree.VERSION);
        due.is(11, "wrongPart()", x.wrongPart(), 5);
        due.is(10, "latest()", x.latest(), 3);
        due.is(10, "state()", x.state(), 1 + 16 * 2);
        due.node(10, x, 0, 0, 0, 1, 0, 0, -1, 1);
        due.node(10, x, 1, 1, 0, 1, 2, 2, -1, 1);
        due.node(10, x, Make.path(0, 0), 2, 0, 0, 3, 3, 0, 0);
        due.is(10, "watches()", x.watches(), 3);
        due.events(10, x, 0);
        // What the failed one did must not be told by the next one either.
        x.part(3, 0, 0, 0);
        due.is(10, "multi(0)", x.multi(0), 4);
        due.events(10, x, 0);
        due.is(10, "watches()", x.watches(), 3);
        due.is(10, "its owned node goes with it", x.close(0), 1);
    }

    private static void everyWrong() {
        WatchTree x = Make.withSessions(1);
        x.create(0, 1, 0, 0);
        x.create(0, 2, 0, 1);
        x.create(0, Make.path(0, 0), 0, 0);
        int[][] parts = {
            {0, 0, 0, WatchTree.NO_PATH}, {0, 101, 2, WatchTree.NO_PATH}, {0, Make.path(8, 8), 0, WatchTree.NO_NODE},
            {0, Make.path(1, 1), 1, WatchTree.CHILDLESS}, {0, 1, 0, WatchTree.EXISTS},
            {1, 101, -1, WatchTree.NO_PATH}, {1, 9, -1, WatchTree.NO_NODE}, {1, 1, 1, WatchTree.VERSION},
            {2, 0, -1, WatchTree.NO_PATH}, {2, -1, -1, WatchTree.NO_PATH}, {2, 9, -1, WatchTree.NO_NODE},
            {2, 1, 1, WatchTree.VERSION}, {2, 1, 0, WatchTree.CHILDREN},
            {3, -1, -1, WatchTree.NO_PATH}, {3, 101, -1, WatchTree.NO_PATH}, {3, 9, -1, WatchTree.NO_NODE},
            {3, 1, 1, WatchTree.VERSION}, {3, 0, -2, WatchTree.VERSION}};
        for (int i = 0; i < parts.length; i++) {
            int[] p = parts[i];
            int before = i % 6;
            for (int k = 0; k < before; k++) {
                x.part(3, 0, 0, 0);
            }
            x.part(p[0], p[1], 0, p[2]);
            due.is(10, "multi with part(" + p[0] + ", " + p[1] + ", 0, " + p[2] + ")", x.multi(0), p[3]);
            due.is(11, "wrongPart()", x.wrongPart(), before);
            due.is(23, "none waits then", x.multi(0), WatchTree.REFUSED);
        }
        due.is(10, "latest()", x.latest(), 4);
        for (int i = 3; i <= 18; i++) {
            x.create(0, i, 0, 0);
        }
        x.part(0, 30, 0, 0);
        x.part(0, 31, 0, 0);
        due.is(10, "FULL by the part before", x.multi(0), WatchTree.FULL);
        due.is(11, "wrongPart()", x.wrongPart(), 1);
        x.part(2, 18, 0, 0);
        x.part(0, 30, 0, 0);
        x.part(0, 31, 0, 0);
        due.is(10, "room made by the part before", x.multi(0), 21);
        due.is(11, "wrongPart()", x.wrongPart(), -1);
        due.is(10, "state()", x.state(), 1 + 16 * 20);
    }

    private static void refusedAndLogFull() {
        WatchTree x = Make.withSessions(1);
        due.is(10, "none waited", x.multi(0), WatchTree.REFUSED);
        x.part(3, 9, 0, -1);
        x.multi(0);
        due.is(11, "wrongPart()", x.wrongPart(), 0);
        due.is(11, "wrongPart() again", x.wrongPart(), 0);
        x.crash();
        due.is(11, "a crash is no multi()", x.wrongPart(), 0);
        for (int session : new int[] {-1, 1, 3, 4, Integer.MIN_VALUE, Integer.MAX_VALUE}) {
            x.part(3, 9, 0, -1);
            due.is(10, "multi(" + session + ")", x.multi(session), WatchTree.REFUSED);
            due.is(23, "wrongPart()", x.wrongPart(), -1);
            due.is(23, "the parts are gone", x.multi(0), WatchTree.REFUSED);
        }
        x.part(0, 1, 0, 0);
        x.part(3, 9, 0, -1);
        x.multi(0);
        due.is(11, "wrongPart()", x.wrongPart(), 1);
        due.is(10, "none waited", x.multi(0), WatchTree.REFUSED);
        due.is(23, "wrongPart() when none waited", x.wrongPart(), -1);

        WatchTree y = Make.withSessions(1);
        y.part(3, 9, 0, -1);
        y.multi(0);
        for (int i = 0; i < 39; i++) {
            y.set(0, 0, i, -1);
        }
        due.is(11, "wrongPart()", y.wrongPart(), 0);
        y.part(3, 9, 0, -1);
        due.is(23, "LOG_FULL before what is wrong", y.multi(0), WatchTree.LOG_FULL);
        due.is(23, "wrongPart() with a full log", y.wrongPart(), -1);
        y.part(3, 0, 0, -1);
        due.is(23, "REFUSED before LOG_FULL", y.multi(1), WatchTree.REFUSED);
        due.is(23, "the parts are gone, none waits", y.multi(0), WatchTree.REFUSED);
        y.part(3, 0, 0, -1);
        due.is(10, "LOG_FULL", y.multi(0), WatchTree.LOG_FULL);
        due.is(23, "the parts are gone", y.part(3, 0, 0, -1), 1);
    }

    private static void flagsOfParts() {
        WatchTree x = Make.withSessions(1);
        x.part(0, 60, 0, 2);
        x.part(0, 101, 0, 2);
        due.is(23, "a numbered part needs a path", x.multi(0), WatchTree.NO_PATH);
        due.is(11, "wrongPart()", x.wrongPart(), 1);
        x.part(0, 0, 0, 3);
        due.is(23, "the root is none", x.multi(0), WatchTree.NO_PATH);
        x.part(0, 60, 0, 2);
        x.part(0, 60, 0, 3);
        due.is(10, "multi(0)", x.multi(0), 2);
        due.is(10, "owner of the first", x.node(Make.path(0), 5), -1);
        due.is(10, "owner of the second", x.node(Make.path(1), 5), 0);
    }

    private static void tellsWhenAllIsDone() {
        WatchTree x = Make.withSessions(2);
        x.create(0, 5, 0, 0);
        x.watch(1, 0, 5);
        x.watch(1, 2, 1);
        x.watch(1, 1, 0);
        x.watch(0, 1, 5);
        x.part(0, 1, 0, 0);
        x.part(1, 5, 0, -1);
        x.part(0, Make.path(4, 4), 0, 0);
        x.part(2, 1, 0, -1);
        due.is(10, "multi(0)", x.multi(0), 4);
        // The removal of 1 finds no watch any more: each tells once.
        due.events(10, x, 1, Make.MADE + 1, Make.CHILDREN, Make.SET + 5);
        due.events(10, x, 0, Make.CHILDREN + 5);
        due.is(10, "watches()", x.watches(), 0);
    }
}
