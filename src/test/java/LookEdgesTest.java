import java.math.BigInteger;

/** The boundary cases of promises 15 to 18, sentence by sentence. */
public final class LookEdgesTest {
    private static final Due due = new Due();

    public static void main(String[] args) {
        whatZeroToSix();
        nodeThatIsNotThere();
        nodeHoldsItsNumbers();
        howManyChildren();
        childByName();
        childThatIsNone();
        childOfWhatIsNotThere();
        childByWrapAround();
        latestAtFirst();
        stateOfSessions();
        stateOfNodes();
        due.end();
    }

    private static void whatZeroToSix() {
        due.says(15, "what 0 data, 1 version, 2 child version, 3 CREATED, 4 SET, 5 owner, 6 how many children; NOTHING if .. what is another.");
        WatchTree x = Make.withSessions(3);
        x.create(0, 1, -5, 0);
        x.create(2, Make.path(0, 0), 9, 1);
        x.set(1, 1, -6, -1);
        x.set(1, 1, -7, -1);
        x.create(2, Make.path(0, 1), 9, 1);
        x.create(2, Make.path(0, 2), 9, 1);
        x.remove(2, Make.path(0, 1), -1);
        due.node(x, 1, -7, 2, 4, 4, 7, -1, 2);
        due.node(x, Make.path(0, 0), 9, 0, 0, 5, 5, 2, 0);
        for (int path : new int[] {0, 1, Make.path(0, 0), 60}) {
            for (int what : new int[] {Integer.MIN_VALUE, Integer.MIN_VALUE + 1, -8, -7, -2, -1, 7, 8, 13, 14, 100, Integer.MAX_VALUE - 1, Integer.MAX_VALUE}) {
                due.is("node(" + path + ", " + what + ")", x.node(path, what), WatchTree.NOTHING);
            }
        }
    }

    private static void nodeThatIsNotThere() {
        due.says(15, "NOTHING if it is not there");
        WatchTree x = Make.withNodes(1);
        x.create(0, 2, 3, 0);
        x.remove(0, 2, -1);
        for (int what = 0; what < 7; what++) {
            due.is("node(2, " + what + "), gone", x.node(2, what), WatchTree.NOTHING);
            due.is("node(3, " + what + "), never there", x.node(3, what), WatchTree.NOTHING);
            due.is("node(102, " + what + "), below one that is", x.node(102, what), WatchTree.NOTHING);
            for (int path : Make.noPaths()) {
                due.is("node(" + path + ", " + what + "), no path", x.node(path, what), WatchTree.NOTHING);
            }
        }
        due.is("no int is it", WatchTree.NOTHING < Integer.MIN_VALUE, true);
    }

    private static void nodeHoldsItsNumbers() {
        due.says(15, "Of a node: what 0 data");
        WatchTree x = Make.withSessions(1);
        for (int data : new int[] {Integer.MIN_VALUE, -1, Integer.MAX_VALUE}) {
            x.set(0, 0, data, -1);
            due.is("node(0, 0)", x.node(0, 0), data);
        }
        due.says(15, "5 owner");
        WatchTree y = Make.withSessions(4);
        for (int session = 0; session < 4; session++) {
            y.create(session, 1 + session, 0, 1);
            due.is("the owner " + session, y.node(1 + session, 5), session);
        }
        y.create(3, 60, 0, 0);
        due.is("no owner", y.node(60, 5), -1);
        due.is("the root's", y.node(0, 5), -1);
    }

    private static void howManyChildren() {
        due.says(15, "6 how many children");
        WatchTree x = Make.withNodes(1);
        due.is("node(1, 6)", x.node(1, 6), 0);
        for (int i = 0; i < 19; i++) {
            x.create(0, Make.path(0, 99 - i), 0, i % 2);
            due.is("node(1, 6)", x.node(1, 6), i + 1);
        }
        due.is("node(0, 6) counts no grandchildren", x.node(0, 6), 1);
        x.remove(0, Make.path(0, 99), -1);
        due.is("node(1, 6) after a REMOVE", x.node(1, 6), 18);
        x.close(0);
        due.is("node(1, 6) after a closing", x.node(1, 6), 9);
        due.is("node(0, 6) with 20", Make.withNodes(20).node(0, 6), 20);
    }

    private static void childByName() {
        due.says(16, "The k-th child of a node by name (0 the lowest): its path");
        for (int parent : new int[] {0, Make.path(99), Make.path(99, 99)}) {
            WatchTree x = Make.withSessions(1);
            if (parent != 0) {
                x.create(0, Make.path(99), 0, 0);
            }
            if (parent > 101) {
                x.create(0, Make.path(99, 99), 0, 0);
            }
            int[] names = {98, 0, 50, 1, 97};
            int[] sorted = {0, 1, 50, 97, 98};
            for (int name : names) {
                x.create(0, parent * 101 + name + 1, 0, 0);
            }
            for (int k = 0; k < 5; k++) {
                due.is("child(" + parent + ", " + k + ")", x.child(parent, k), parent * 101 + sorted[k] + 1);
            }
            due.is("child(" + parent + ", 5)", x.child(parent, 5), WatchTree.REFUSED);
        }
        WatchTree y = Make.withNodes(20);
        for (int k = 0; k < 20; k++) {
            due.is("child(0, " + k + ") of 20", y.child(0, k), k + 1);
        }
        due.is("child(0, 20) of 20", y.child(0, 20), WatchTree.REFUSED);
    }

    private static void childThatIsNone() {
        due.says(16, "REFUSED if there is none.");
        WatchTree x = Make.withNodes(2);
        for (int k : new int[] {Integer.MIN_VALUE, Integer.MIN_VALUE + 1, -2, -1, 2, 3, 99, 100, 101, Integer.MAX_VALUE - 1, Integer.MAX_VALUE}) {
            due.is("child(0, " + k + ")", x.child(0, k), WatchTree.REFUSED);
            due.is("child(1, " + k + ")", x.child(1, k), WatchTree.REFUSED);
        }
        due.is("child(1, 0)", x.child(1, 0), WatchTree.REFUSED);
        x.remove(0, 1, -1);
        due.is("child(0, 0)", x.child(0, 0), 2);
        due.is("child(0, 1)", x.child(0, 1), WatchTree.REFUSED);
    }

    private static void childOfWhatIsNotThere() {
        due.says(16, "REFUSED if there is none.");
        WatchTree x = Make.withNodes(2);
        for (int path : Make.noPaths()) {
            for (int k = -1; k < 3; k++) {
                due.is("child(" + path + ", " + k + ")", x.child(path, k), WatchTree.REFUSED);
            }
        }
        due.is("child(60, 0)", x.child(60, 0), WatchTree.REFUSED);
        due.is("child(1030300, 0)", x.child(1030300, 0), WatchTree.REFUSED);
    }

    private static void childByWrapAround() {
        due.says(16, "REFUSED if there is none.");
        // far * 101 + name + 1 is by wrap-around the path of a node that is there; far is none.
        int inverse = BigInteger.valueOf(101).modInverse(BigInteger.ONE.shiftLeft(32)).intValue();
        WatchTree x = Make.withNodes(1);
        for (int name = 1; name < 100; name++) {
            int far = -name * inverse;
            due.is("child(" + far + ", 0)", x.child(far, 0), WatchTree.REFUSED);
            due.is("node(" + far + ", 6)", x.node(far, 6), WatchTree.NOTHING);
        }
    }

    private static void latestAtFirst() {
        due.says(17, "The number of the latest transaction (0 at first).");
        WatchTree x = new WatchTree();
        due.is("latest()", x.latest(), 0);
        x.crash();
        x.save(24);
        x.pass(30);
        due.is("latest()", x.latest(), 0);
        for (int i = 1; i <= 100; i++) {
            if (i % 2 == 1) {
                x.open(20);
            } else {
                x.close(0);
            }
            due.is("latest()", x.latest(), i);
            if (i % 25 == 0) {
                x.save(24);
                x.crash();
            }
        }
        due.is("latest()", x.latest(), 100);
    }

    private static void stateOfSessions() {
        due.says(18, "Which sessions are open, as bits");
        for (int open = 0; open < 16; open++) {
            WatchTree x = Make.withSessions(4);
            x.create(0, 1, 0, 0);
            for (int session = 0; session < 4; session++) {
                if ((open >> session & 1) == 0) {
                    x.close(session);
                }
            }
            due.is("state()", x.state(), 16 + open);
            x.crash();
            due.is("state() after a crash", x.state(), 16 + open);
        }
    }

    private static void stateOfNodes() {
        due.says(18, "+ 16 * how many nodes there are besides the root.");
        for (int n = 0; n <= 20; n++) {
            due.is("state() with " + n, Make.withNodes(n).state(), 1 + 16 * n);
        }
        WatchTree x = Make.withNodes(20);
        for (int n = 19; n >= 0; n--) {
            x.remove(0, n + 1, -1);
            x.save(24);
            due.is("state() with " + n, x.state(), 1 + 16 * n);
        }
    }
}
