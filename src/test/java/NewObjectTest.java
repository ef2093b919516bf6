/** Promise 1: a new object. */
public final class NewObjectTest {
    public static void main(String[] args) {
        Due due = new Due();
        WatchTree x = new WatchTree();
        due.is(1, "state()", x.state(), 0);
        due.is(1, "latest()", x.latest(), 0);
        due.is(1, "logged()", x.logged(), 0);
        due.is(1, "watches()", x.watches(), 0);
        due.is(1, "wrongPart()", x.wrongPart(), -1);
        due.node(1, x, 0, 0, 0, 0, 0, 0, -1, 0);
        due.node(1, x, 1, WatchTree.NOTHING, WatchTree.NOTHING, WatchTree.NOTHING, WatchTree.NOTHING,
            WatchTree.NOTHING, WatchTree.NOTHING, WatchTree.NOTHING);
        due.is(1, "child(0, 0)", x.child(0, 0), -1);
        for (int session = -1; session <= 4; session++) {
            due.is(1, "left(" + session + ")", x.left(session), -1);
            due.is(1, "event(" + session + ")", x.event(session), -1);
        }
        due.is(1, "crash()", x.crash(), 0);
        // 23 places of a snapshot that begins now are left: none was under way.
        due.is(1, "save(1)", x.save(1), 23);
        due.is(1, "open(1)", x.open(1), 0);
        // No part waits.
        due.is(1, "multi(0)", x.multi(0), -1);
        due.is(1, "part(3, 0, 0, 0)", x.part(3, 0, 0, 0), 1);
        // The time is 0: a deadline of 1 is reached by passing 1, not by passing 0.
        due.is(1, "pass(0)", x.pass(0), 0);
        due.is(1, "pass(1)", x.pass(1), 1);

        WatchTree other = new WatchTree();
        due.is(1, "another object's state()", other.state(), 0);
        other.open(3);
        other.create(0, 7, 1, 0);
        due.is(1, "the first object's node(7, 0)", x.node(7, 0), WatchTree.NOTHING);
        due.end();
    }
}
