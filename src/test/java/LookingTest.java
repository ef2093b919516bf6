import java.math.BigInteger;

/** Promises 15 to 18: node, child, latest, state. */
public final class LookingTest {
    private static final Due due = new Due();

    public static void main(String[] args) {
        node();
        child();
        latest();
        state();
        due.end();
    }

    private static void node() {
        WatchTree x = Make.withSessions(2);
        x.set(1, 0, -9, -1);
        x.create(1, 1, 4, 0);
        x.create(1, Make.path(0, 0), 5, 1);
        x.set(0, 1, Integer.MIN_VALUE, -1);
        due.node(15, x, 0, -9, 1, 1, 0, 3, -1, 1);
        due.node(15, x, 1, Integer.MIN_VALUE, 1, 1, 4, 6, -1, 1);
        due.node(15, x, Make.path(0, 0), 5, 0, 0, 5, 5, 1, 0);
        for (int what : new int[] {-1, 7, 8, Integer.MIN_VALUE, Integer.MAX_VALUE}) {
            due.is(15, "node(1, " + what + ")", x.node(1, what), WatchTree.NOTHING);
            due.is(15, "node(0, " + what + ")", x.node(0, what), WatchTree.NOTHING);
            due.is(15, "node(9, " + what + ")", x.node(9, what), WatchTree.NOTHING);
        }
        for (int path : new int[] {-1, 2, 101, 103, 1030300, 1030301, Integer.MIN_VALUE, Integer.MAX_VALUE}) {
            for (int what = 0; what < 7; what++) {
                due.is(15, "node(" + path + ", " + what + ")", x.node(path, what), WatchTree.NOTHING);
            }
        }
        due.is(15, "NOTHING", WatchTree.NOTHING, -4000000000L);
    }

    private static void child() {
        WatchTree x = Make.withSessions(1);
        int[] names = {50, 0, 99, 7};
        for (int name : names) {
            x.create(0, Make.path(name), 0, 0);
        }
        for (int name : names) {
            x.create(0, Make.path(7, name), 0, 0);
        }
        x.create(0, Make.path(7, 99, 99), 0, 0);
        x.create(0, Make.path(7, 99, 0), 0, 0);
        int[] sorted = {0, 7, 50, 99};
        for (int k = 0; k < 4; k++) {
            due.is(16, "child(0, " + k + ")", x.child(0, k), Make.path(sorted[k]));
            due.is(16, "child(8, " + k + ")", x.child(8, k), Make.path(7, sorted[k]));
        }
        due.is(16, "the lowest, three deep", x.child(Make.path(7, 99), 0), Make.path(7, 99, 0));
        due.is(16, "the greatest, three deep", x.child(Make.path(7, 99), 1), Make.path(7, 99, 99));
        for (int k : new int[] {-1, 4, 100, Integer.MIN_VALUE, Integer.MAX_VALUE}) {
            due.is(16, "child(0, " + k + ")", x.child(0, k), WatchTree.REFUSED);
            due.is(16, "child(8, " + k + ")", x.child(8, k), WatchTree.REFUSED);
        }
        for (int path : new int[] {-1, 1, 2, 101, Make.path(7, 99, 99), Integer.MIN_VALUE, Integer.MAX_VALUE}) {
            due.is(16, "child(" + path + ", 0)", x.child(path, 0), WatchTree.REFUSED);
        }
        x.remove(0, Make.path(7, 0), -1);
        due.is(16, "child(8, 0)", x.child(8, 0), Make.path(7, 7));
        // path * 101 is -name by wrap-around: its "child" of that name would be path 1, which is there.
        int inverse = BigInteger.valueOf(101).modInverse(BigInteger.ONE.shiftLeft(32)).intValue();
        for (int name = 0; name < 100; name++) {
            int far = -name * inverse;
            due.is(16, "child(" + far + ", 0)", x.child(far, 0), name == 0 ? 1 : WatchTree.REFUSED);
        }
    }

    private static void latest() {
        WatchTree x = new WatchTree();
        due.is(17, "at first", x.latest(), 0);
        x.open(5);
        due.is(17, "an opening", x.latest(), 1);
        x.create(0, 1, 0, 0);
        x.set(0, 1, 0, -1);
        x.remove(0, 1, -1);
        due.is(17, "single requests", x.latest(), 4);
        x.part(0, 1, 0, 0);
        x.part(0, 2, 0, 1);
        x.multi(0);
        due.is(17, "a multi request", x.latest(), 5);
        x.remove(0, 9, -1);
        x.part(0, 1, 0, 0);
        x.multi(0);
        x.touch(0);
        x.watch(0, 2, 1);
        x.save(3);
        x.pass(1);
        x.open(0);
        x.close(3);
        due.is(17, "none of these", x.latest(), 5);
        x.close(0);
        due.is(17, "a closing, whatever goes with it", x.latest(), 6);
        x.save(24);
        due.is(17, "a snapshot", x.latest(), 6);
        x.crash();
        due.is(17, "a crash", x.latest(), 6);
    }

    private static void state() {
        WatchTree x = new WatchTree();
        due.is(18, "at first", x.state(), 0);
        for (int i = 0; i < 4; i++) {
            x.open(9);
            due.is(18, "with " + (i + 1) + " open", x.state(), (2 << i) - 1);
        }
        x.close(1);
        due.is(18, "with 0, 2, 3 open", x.state(), 13);
        x.create(3, 1, 0, 0);
        x.create(3, Make.path(0, 0), 0, 1);
        x.create(2, Make.path(0, 1), 0, 0);
        due.is(18, "with 3 nodes", x.state(), 13 + 48);
        x.close(3);
        due.is(18, "with 2 nodes", x.state(), 5 + 32);
        x.remove(0, Make.path(0, 1), -1);
        due.is(18, "with 1 node", x.state(), 5 + 16);
        x.crash();
        due.is(18, "after a crash", x.state(), 5 + 16);
    }
}
