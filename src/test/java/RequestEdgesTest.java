/** The boundary cases of promises 6 to 8 and of the terms NODES, CREATE, SET and REMOVE, sentence by sentence. */
public final class RequestEdgesTest {
    private static final Due due = new Due();

    public static void main(String[] args) {
        rootIsAlwaysThere();
        atMostTwentyOthers();
        roomAgainAfterTwenty();
        parentIsThere();
        dataIsAnInt();
        allIsZeroAtFirst();
        theRootHasNoOwner();
        createFlags();
        createAnswersThePath();
        createNoPath();
        createNoNode();
        createChildless();
        createExists();
        createFull();
        createOrder();
        numberedGoesRound();
        numberedGoesRoundBelow();
        numberedGoesRoundToWhatIsThere();
        numberedDoesNotLookAtTheName();
        createGrowsTheParent();
        setWrongs();
        setGrowsTheVersion();
        setGetsTheData();
        removeWrongs();
        removeOrder();
        removeGrowsTheParent();
        removedIsGone();
        refusedThenLogFullThenWrong();
        due.end();
    }

    private static void rootIsAlwaysThere() {
        due.says(0, "The root is always there");
        WatchTree x = Make.withSessions(1);
        due.is("remove(0, 0, -1)", x.remove(0, 0, -1), WatchTree.NO_PATH);
        due.is("remove(0, 0, 0)", x.remove(0, 0, 0), WatchTree.NO_PATH);
        x.part(2, 0, 0, -1);
        due.is("multi(0) with a REMOVE of it", x.multi(0), WatchTree.NO_PATH);
        x.close(0);
        x.crash();
        due.node(x, 0, 0, 0, 0, 0, 0, -1, 0);
        x.save(24);
        x.crash();
        due.node(x, 0, 0, 0, 0, 0, 0, -1, 0);
        due.is("state() does not count it", x.state(), 0);
    }

    private static void atMostTwentyOthers() {
        due.says(0, "at most 20 others are");
        WatchTree x = Make.withNodes(19);
        due.is("the 20th", x.create(0, Make.path(0, 0), 0, 0), Make.path(0, 0));
        due.is("state()", x.state(), 1 + 16 * 20);
        due.is("a 21st", x.create(0, 60, 0, 0), WatchTree.FULL);
        due.is("a 21st, owned", x.create(0, 60, 0, 1), WatchTree.FULL);
        due.is("a 21st, numbered", x.create(0, 60, 0, 2), WatchTree.FULL);
        due.is("a 21st, three deep", x.create(0, Make.path(0, 0, 0), 0, 3), WatchTree.FULL);
        due.is("state()", x.state(), 1 + 16 * 20);
        due.is("latest()", x.latest(), 21);
        due.is("node(60, 0)", x.node(60, 0), WatchTree.NOTHING);
    }

    private static void roomAgainAfterTwenty() {
        due.says(0, "FULL: 20 are there.");
        WatchTree x = Make.withNodes(19);
        x.open(20);
        x.create(1, 20, 0, 1);
        due.is("with 20", x.create(0, 60, 0, 0), WatchTree.FULL);
        x.remove(0, 7, -1);
        due.is("after a REMOVE", x.create(0, 60, 0, 0), 60);
        due.is("with 20 again", x.create(0, 61, 0, 0), WatchTree.FULL);
        x.close(1);
        due.is("after a closing", x.create(0, 61, 0, 0), 61);
        due.is("with 20 again", x.create(0, 62, 0, 0), WatchTree.FULL);
        x.crash();
        due.is("with 20 after a crash", x.create(0, 62, 0, 0), WatchTree.FULL);
        x.save(24);
        due.is("with 20 after a snapshot", x.create(0, 62, 0, 0), WatchTree.FULL);
    }

    private static void parentIsThere() {
        due.says(0, "each one's parent among them or the root");
        WatchTree x = Make.withSessions(1);
        int[] line = {Make.path(3), Make.path(3, 4), Make.path(3, 4, 5)};
        due.is("two deep first", x.create(0, line[1], 0, 0), WatchTree.NO_NODE);
        due.is("three deep first", x.create(0, line[2], 0, 0), WatchTree.NO_NODE);
        for (int path : line) {
            due.is("create " + path, x.create(0, path, 0, 0), path);
        }
        due.is("remove the first", x.remove(0, line[0], -1), WatchTree.CHILDREN);
        due.is("remove the second", x.remove(0, line[1], -1), WatchTree.CHILDREN);
        due.is("remove the third", x.remove(0, line[2], -1), 2);
        due.is("remove the second", x.remove(0, line[1], -1), 2);
        due.is("the third below nothing", x.create(0, line[2], 0, 0), WatchTree.NO_NODE);
        due.is("remove the first", x.remove(0, line[0], -1), 2);
        due.is("the second below nothing", x.create(0, line[1], 0, 2), WatchTree.NO_NODE);
    }

    private static void dataIsAnInt() {
        due.says(0, "A node has DATA (an int)");
        WatchTree x = Make.withSessions(1);
        int path = 0;
        for (int data : new int[] {Integer.MIN_VALUE, Integer.MIN_VALUE + 1, -1, 0, 1, Integer.MAX_VALUE - 1, Integer.MAX_VALUE}) {
            path++;
            due.is("create with " + data, x.create(0, path, data, 0), path);
            due.is("node(" + path + ", 0)", x.node(path, 0), data);
            due.is("set to " + data, x.set(0, 1, data, -1), path);
            due.is("node(1, 0)", x.node(1, 0), data);
            x.part(1, 0, data, -1);
            x.part(0, Make.path(0, path), data, 0);
            due.is("multi(0)", x.multi(0) > 0, true);
            due.is("node(0, 0)", x.node(0, 0), data);
            due.is("node of the part's", x.node(Make.path(0, path), 0), data);
        }
    }

    private static void allIsZeroAtFirst() {
        due.says(0, "All but the owner are 0 at first (CREATED and SET are the making transaction)");
        WatchTree x = Make.withNodes(20);
        x.open(20);
        // Whatever was there before must not be seen in what is made in its place.
        x.set(0, 5, 99, -1);
        x.remove(0, 6, -1);
        x.create(0, Make.path(4, 0), 0, 0);
        x.remove(0, Make.path(4, 0), -1);
        x.remove(0, 5, -1);
        due.is("create(0, 5, 0, 0)", x.create(0, 5, 0, 0), 5);
        due.node(x, 5, 0, 0, 0, 28, 28, -1, 0);
        due.is("create(1, 6, 0, 1)", x.create(1, 6, 0, 1), 6);
        due.node(x, 6, 0, 0, 0, 29, 29, 1, 0);
        x.close(1);
        due.is("create(0, 6, 0, 0)", x.create(0, 6, 0, 0), 6);
        due.node(x, 6, 0, 0, 0, 31, 31, -1, 0);
    }

    private static void theRootHasNoOwner() {
        due.says(0, "an OWNER: a session, or -1. All but the owner are 0 at first (CREATED and SET are the making transaction), the root's owner is -1.");
        WatchTree x = Make.withSessions(4);
        for (int session = 0; session < 4; session++) {
            due.is("create of " + session, x.create(session, session + 1, 0, 1), session + 1);
            due.is("the owner", x.node(session + 1, 5), session);
            x.set(session, 0, 0, -1);
            due.is("the root's", x.node(0, 5), -1);
        }
        x.set(3, 1, 0, -1);
        due.is("another's SET does not change it", x.node(1, 5), 0);
        due.is("create of none's", x.create(3, 60, 0, 0), 60);
        due.is("none", x.node(60, 5), -1);
        due.is("close(0)", x.close(0), 1);
        due.is("the root's", x.node(0, 5), -1);
        due.is("below the root is not childless", x.create(1, 1, 0, 0), 1);
    }

    private static void createFlags() {
        due.says(0, "CREATE path, data, flags (1 owned, 2 numbered, 3 both, 0 neither)");
        for (int flags = -2; flags <= 6; flags++) {
            WatchTree x = Make.withSessions(2);
            boolean isOne = flags >= 0 && flags <= 3;
            int made = flags >= 2 ? 1 : 60;
            due.is("create(1, 60, 0, " + flags + ")", x.create(1, 60, 0, flags), isOne ? made : WatchTree.REFUSED);
            due.is("state()", x.state(), isOne ? 3 + 16 : 3);
            long owner = flags == 1 || flags == 3 ? 1 : -1;
            due.is("node(" + made + ", 5)", x.node(made, 5), isOne ? owner : WatchTree.NOTHING);
            due.is("close(1)", x.close(1), isOne && owner == 1 ? 1 : 0);
        }
    }

    private static void createAnswersThePath() {
        due.says(6, "CREATE: the path of the new node; REFUSED if the session is not open or flags not 0 .. 3; LOG_FULL; or what is wrong.");
        WatchTree x = Make.withSessions(1);
        int[] line = {Make.path(99), Make.path(99, 0), Make.path(99, 0, 99)};
        for (int path : line) {
            due.is("create(0, " + path + ", 0, 0)", x.create(0, path, 0, 0), path);
        }
        due.is("numbered", x.create(0, Make.path(99, 0, 99), 0, 2), Make.path(99, 0, 1));
        due.is("not open", x.create(1, 60, 0, 0), WatchTree.REFUSED);
        due.is("no flags", x.create(0, 60, 0, 4), WatchTree.REFUSED);
        due.is("wrong", x.create(0, line[0], 0, 0), WatchTree.EXISTS);
        Make.fillLog(x, 39);
        due.is("the 40th", x.create(0, 60, 0, 0), 60);
        due.is("a 41st", x.create(0, 61, 0, 0), WatchTree.LOG_FULL);
        due.is("a 41st that is wrong", x.create(0, line[0], 0, 0), WatchTree.LOG_FULL);
    }

    private static void createNoPath() {
        due.says(0, "NO_PATH: no path, or the root.");
        for (int flags = 0; flags < 4; flags++) {
            WatchTree x = Make.withNodes(3);
            due.is("create the root, flags " + flags, x.create(0, 0, 0, flags), WatchTree.NO_PATH);
            for (int path : Make.noPaths()) {
                due.is("create " + path + ", flags " + flags, x.create(0, path, 0, flags), WatchTree.NO_PATH);
            }
        }
    }

    private static void createNoNode() {
        due.says(0, "NO_NODE: the parent is not there.");
        for (int flags = 0; flags < 4; flags++) {
            WatchTree x = Make.withNodes(1);
            due.is("below 2, flags " + flags, x.create(0, Make.path(1, 0), 0, flags), WatchTree.NO_NODE);
            due.is("below 1/0, flags " + flags, x.create(0, Make.path(0, 0, 0), 0, flags), WatchTree.NO_NODE);
            due.is("the greatest path, flags " + flags, x.create(0, 1030300, 0, flags), WatchTree.NO_NODE);
            due.is("state()", x.state(), 1 + 16);
        }
    }

    private static void createChildless() {
        due.says(0, "CHILDLESS: the parent has an owner.");
        for (int flags = 0; flags < 4; flags++) {
            WatchTree x = Make.withSessions(2);
            x.create(0, 1, 0, 1);
            x.create(1, 2, 0, 0);
            x.create(1, Make.path(1, 0), 0, 3);
            due.is("below one's own, flags " + flags, x.create(0, Make.path(0, 0), 0, flags), WatchTree.CHILDLESS);
            due.is("below another's, flags " + flags, x.create(1, Make.path(0, 0), 0, flags), WatchTree.CHILDLESS);
            due.is("two deep, flags " + flags, x.create(0, Make.path(1, 0, 0), 0, flags), WatchTree.CHILDLESS);
            due.is("node(1, 2)", x.node(1, 2), 0);
        }
    }

    private static void createExists() {
        due.says(0, "EXISTS: the node is there.");
        WatchTree x = Make.withSessions(2);
        x.create(0, 1, 4, 0);
        x.create(0, Make.path(0, 0), 5, 1);
        due.is("as before", x.create(0, 1, 4, 0), WatchTree.EXISTS);
        due.is("by another, owned", x.create(1, 1, 9, 1), WatchTree.EXISTS);
        due.is("two deep", x.create(1, Make.path(0, 0), 9, 0), WatchTree.EXISTS);
        due.is("the number 1 is not there", x.create(0, 1, 0, 2), 2);
        due.is("by its name", x.create(0, 4, 0, 0), 4);
        due.is("the number 3 is there", x.create(0, 60, 0, 2), WatchTree.EXISTS);
        due.is("the number 3 is there, owned", x.create(0, 60, 0, 3), WatchTree.EXISTS);
        due.node(x, 1, 4, 0, 1, 3, 3, -1, 1);
        due.is("node(0, 2) has not grown", x.node(0, 2), 3);
    }

    private static void createFull() {
        due.says(0, "FULL: 20 are there.");
        for (int there = 18; there <= 20; there++) {
            WatchTree x = Make.withNodes(there);
            due.is("one more than " + there, x.create(0, 60, 0, 0), there < 20 ? 60 : WatchTree.FULL);
            due.is("state()", x.state(), 1 + 16 * Math.min(there + 1, 20));
        }
    }

    private static void createOrder() {
        due.says(0, "REQUESTS of an open session, each with what can be WRONG, in this order");
        WatchTree x = Make.withNodes(19);
        x.create(0, 20, 0, 1);
        int owned = 20;
        for (int flags = 0; flags < 4; flags++) {
            String f = ", flags " + flags;
            due.is("NO_PATH before NO_NODE and FULL" + f, x.create(0, 60 * 101, 0, flags), WatchTree.NO_PATH);
            due.is("NO_PATH before CHILDLESS and FULL" + f, x.create(0, owned * 101, 0, flags), WatchTree.NO_PATH);
            due.is("NO_PATH before EXISTS and FULL" + f, x.create(0, 0, 0, flags), WatchTree.NO_PATH);
            due.is("NO_NODE before FULL" + f, x.create(0, Make.path(59, 0), 0, flags), WatchTree.NO_NODE);
            due.is("CHILDLESS before FULL" + f, x.create(0, owned * 101 + 1, 0, flags), WatchTree.CHILDLESS);
        }
        due.is("EXISTS before FULL", x.create(0, 1, 0, 0), WatchTree.EXISTS);
        WatchTree y = Make.withNodes(18);
        y.create(0, 21, 0, 0);
        y.create(0, 22, 0, 0);
        due.is("the number 20 is there: EXISTS before FULL", y.create(0, 60, 0, 2), WatchTree.EXISTS);
        y.remove(0, 22, -1);
        y.create(0, 60, 0, 0);
        due.is("the number 22 is not there: FULL", y.create(0, 1, 0, 2), WatchTree.FULL);
    }

    private static void numberedGoesRound() {
        due.says(0, "with 2 the node's name is .. the parent's child version modulo 100");
        WatchTree x = Make.withSessions(1);
        for (int childVersion : new int[] {98, 198, 298}) {
            Make.growChildVersion(x, 50, childVersion);
            for (int i = 0; i < 4; i++) {
                due.is("node(0, 2)", x.node(0, 2), childVersion + i);
                int made = (98 + i) % 100 + 1;
                due.is("with the child version " + (childVersion + i), x.create(0, 7, 0, 2 + i % 2), made);
            }
            for (int name : new int[] {98, 99, 0, 1}) {
                x.remove(0, Make.path(name), -1);
            }
            x.save(24);
        }
    }

    private static void numberedGoesRoundBelow() {
        due.says(0, "with 2 the node's name is .. the parent's child version modulo 100");
        WatchTree x = Make.withNodes(1);
        x.create(0, Make.path(0, 0), 0, 0);
        Make.growChildVersion(x, Make.path(0, 0, 50), 98);
        for (int number = 98; number < 103; number++) {
            x.part(0, Make.path(0, 0, 7), number, 2);
        }
        due.is("multi(0) with five numbered ones", x.multi(0) > 0, true);
        int[] names = {0, 1, 2, 98, 99};
        for (int k = 0; k < 5; k++) {
            int path = Make.path(0, 0, names[k]);
            due.is("child(102, " + k + ")", x.child(Make.path(0, 0), k), path);
            due.is("node(" + path + ", 0)", x.node(path, 0), names[k] < 98 ? 100 + names[k] : names[k]);
        }
        due.is("node(102, 2)", x.node(Make.path(0, 0), 2), 103);
        due.is("the node's other names are not touched", x.node(1, 2), 1);
    }

    private static void numberedGoesRoundToWhatIsThere() {
        due.says(0, "with 2 the node's name is .. the parent's child version modulo 100");
        WatchTree x = Make.withSessions(1);
        due.is("the number 0", x.create(0, 7, 0, 2), Make.path(0));
        Make.growChildVersion(x, 50, 99);
        due.is("the number 99", x.create(0, 7, 0, 2), Make.path(99));
        due.is("the number 100 is the name 0, which is there", x.create(0, 7, 0, 2), WatchTree.EXISTS);
        x.remove(0, 1, -1);
        due.is("the number 101 is the name 1", x.create(0, 7, 0, 2), Make.path(1));
        due.is("node(0, 2)", x.node(0, 2), 102);
    }

    private static void numberedDoesNotLookAtTheName() {
        due.says(23, "with flags 2 or 3 path has to be a path all the same (what its last name is does not matter); else NO_PATH.");
        for (int flags = 2; flags < 4; flags++) {
            for (int name = 0; name < 100; name++) {
                WatchTree x = Make.withNodes(1);
                due.is("the name " + name, x.create(0, Make.path(name), 0, flags), Make.path(1));
                due.is("the name " + name + " below", x.create(0, Make.path(0, name), 0, flags), Make.path(0, 0));
                due.is("state()", x.state(), 1 + 16 * 3);
            }
            WatchTree y = Make.withNodes(1);
            for (int path : new int[] {0, -1, 101, 202, 10201, 10302, 1030301, Integer.MIN_VALUE, Integer.MAX_VALUE}) {
                due.is("create(0, " + path + ", 0, " + flags + ")", y.create(0, path, 0, flags), WatchTree.NO_PATH);
                due.is("part(0, " + path + ", 0, " + flags + ")", y.part(0, path, 0, flags), 1);
                due.is("multi(0) with it", y.multi(0), WatchTree.NO_PATH);
            }
        }
    }

    private static void createGrowsTheParent() {
        due.says(0, "The node is made, its owner is the session if owned; the parent's child version grows by 1.");
        WatchTree x = Make.withSessions(4);
        x.create(2, 1, 11, 0);
        x.create(3, 2, 12, 1);
        x.create(3, Make.path(0, 0), 13, 3);
        due.node(x, 0, 0, 0, 2, 0, 0, -1, 2);
        due.node(x, 1, 11, 0, 1, 5, 5, -1, 1);
        due.node(x, 2, 12, 0, 0, 6, 6, 3, 0);
        due.node(x, Make.path(0, 0), 13, 0, 0, 7, 7, 3, 0);
    }

    private static void setWrongs() {
        due.says(0, "SET path, data, version: NO_PATH: no path. NO_NODE. VERSION: version is neither -1 nor the node's.");
        WatchTree x = Make.withNodes(2);
        for (int path : Make.noPaths()) {
            due.is("NO_PATH before NO_NODE and VERSION, " + path, x.set(0, path, 0, 9), WatchTree.NO_PATH);
        }
        due.is("NO_NODE before VERSION", x.set(0, 3, 0, 9), WatchTree.NO_NODE);
        for (int version = 0; version < 5; version++) {
            due.is("one below, " + (version - 1), x.set(0, 1, 0, version == 0 ? -2 : version - 1), WatchTree.VERSION);
            due.is("one above, " + (version + 1), x.set(0, 1, 0, version + 1), WatchTree.VERSION);
            due.is("the node's, " + version, x.set(0, 1, 0, version), version + 1);
        }
        due.is("-1 is any", x.set(0, 1, 0, -1), 6);
        due.is("the root may be set", x.set(0, 0, 3, 0), 1);
        due.is("the root's version", x.set(0, 0, 3, 0), WatchTree.VERSION);
        // The child version of the root is 2 and its version 1: they are not one another.
        due.is("the child version is not it", x.set(0, 0, 3, 2), WatchTree.VERSION);
    }

    private static void setGrowsTheVersion() {
        due.says(7, "the node's version then");
        WatchTree x = Make.withNodes(1);
        for (int i = 1; i <= 200; i++) {
            due.is("set " + i, x.set(0, 1, i, i % 2 == 0 ? -1 : i - 1), i);
            if (i % 30 == 0) {
                x.save(24);
            }
        }
        due.node(x, 1, 200, 200, 0, 2, 202, -1, 0);
        due.node(x, 0, 0, 0, 1, 0, 0, -1, 1);
    }

    private static void setGetsTheData() {
        due.says(0, "The node gets the data, its version grows by 1, its SET becomes the transaction.");
        WatchTree x = Make.withNodes(2);
        x.create(0, Make.path(0, 0), 3, 1);
        x.set(0, Make.path(0, 0), Integer.MIN_VALUE, 0);
        x.set(0, Make.path(0, 0), Integer.MAX_VALUE, 1);
        due.node(x, Make.path(0, 0), Integer.MAX_VALUE, 2, 0, 4, 6, 0, 0);
        due.node(x, 1, 0, 0, 1, 2, 2, -1, 1);
        due.node(x, 2, 0, 0, 0, 3, 3, -1, 0);
        x.set(0, Make.path(0, 0), Integer.MAX_VALUE, -1);
        due.node(x, Make.path(0, 0), Integer.MAX_VALUE, 3, 0, 4, 7, 0, 0);
    }

    private static void removeWrongs() {
        due.says(0, "REMOVE path, version: NO_PATH: no path, or the root. NO_NODE. VERSION. CHILDREN: the node has some.");
        WatchTree x = Make.withNodes(2);
        x.create(0, Make.path(0, 99), 0, 0);
        x.set(0, 2, 0, -1);
        for (int path : Make.noPaths()) {
            due.is("no path " + path, x.remove(0, path, -1), WatchTree.NO_PATH);
        }
        due.is("the root", x.remove(0, 0, -1), WatchTree.NO_PATH);
        due.is("it is not there", x.remove(0, 3, -1), WatchTree.NO_NODE);
        due.is("the version before", x.remove(0, 2, 0), WatchTree.VERSION);
        due.is("the version after", x.remove(0, 2, 2), WatchTree.VERSION);
        due.is("no version", x.remove(0, 2, -2), WatchTree.VERSION);
        due.is("it has one child", x.remove(0, 1, -1), WatchTree.CHILDREN);
        due.is("the child", x.remove(0, Make.path(0, 99), 0), 2);
        due.is("it has none any more", x.remove(0, 1, -1), 3);
        due.is("by its version", x.remove(0, 2, 1), 4);
        due.is("it is gone", x.remove(0, 2, -1), WatchTree.NO_NODE);
    }

    private static void removeOrder() {
        due.says(0, "REMOVE path, version: NO_PATH: no path, or the root. NO_NODE. VERSION. CHILDREN: the node has some.");
        WatchTree x = Make.withNodes(1);
        x.create(0, Make.path(0, 0), 0, 0);
        due.is("NO_PATH before NO_NODE and VERSION", x.remove(0, 101, 9), WatchTree.NO_PATH);
        due.is("NO_PATH before VERSION and CHILDREN", x.remove(0, 0, 9), WatchTree.NO_PATH);
        due.is("NO_PATH before CHILDREN", x.remove(0, 0, 0), WatchTree.NO_PATH);
        due.is("NO_NODE before VERSION", x.remove(0, 2, 9), WatchTree.NO_NODE);
        due.is("VERSION before CHILDREN", x.remove(0, 1, 9), WatchTree.VERSION);
        due.is("CHILDREN", x.remove(0, 1, 0), WatchTree.CHILDREN);
    }

    private static void removeGrowsTheParent() {
        due.says(8, "the parent's child version then");
        WatchTree x = Make.withNodes(2);
        x.create(0, Make.path(0, 0), 0, 0);
        x.create(0, Make.path(0, 0, 0), 0, 1);
        due.is("three deep", x.remove(0, Make.path(0, 0, 0), -1), 2);
        due.is("two deep", x.remove(0, Make.path(0, 0), -1), 2);
        due.is("below the root", x.remove(0, 1, -1), 3);
        due.is("below the root", x.remove(0, 2, -1), 4);
        due.node(x, 0, 0, 0, 4, 0, 0, -1, 0);
        due.is("state()", x.state(), 1);
    }

    private static void removedIsGone() {
        due.says(0, "The node is gone, the parent's child version grows by 1.");
        WatchTree x = Make.withNodes(20);
        for (int i = 20; i >= 1; i--) {
            x.save(24);
            due.is("remove(0, " + i + ", 0)", x.remove(0, i, 0), 41 - i);
            due.is("node(" + i + ", 0)", x.node(i, 0), WatchTree.NOTHING);
            due.is("state()", x.state(), 1 + 16 * (i - 1));
            due.is("node(0, 2)", x.node(0, 2), 41 - i);
        }
        due.is("child(0, 0)", x.child(0, 0), WatchTree.REFUSED);
        due.is("remove(0, 1, 0) again", x.remove(0, 1, 0), WatchTree.NO_NODE);
    }

    private static void refusedThenLogFullThenWrong() {
        due.says(23, "open, create, set, remove: REFUSED is tested before LOG_FULL, and this before what is wrong.");
        WatchTree x = Make.withNodes(1);
        x.create(0, 2, 0, 1);
        Make.fillLog(x, 40);
        due.is("open(0)", x.open(0), WatchTree.REFUSED);
        due.is("open(21)", x.open(21), WatchTree.REFUSED);
        due.is("open(20)", x.open(20), WatchTree.LOG_FULL);
        for (int session : Make.outside(0, 0)) {
            due.is("create of " + session, x.create(session, 60, 0, 0), WatchTree.REFUSED);
            due.is("set of " + session, x.set(session, 0, 0, -1), WatchTree.REFUSED);
            due.is("remove of " + session, x.remove(session, 1, -1), WatchTree.REFUSED);
        }
        due.is("create with the flags 4", x.create(0, 60, 0, 4), WatchTree.REFUSED);
        due.is("create with the flags -1", x.create(0, 60, 0, -1), WatchTree.REFUSED);
        for (int path : new int[] {60, 0, -1, 101, 1030301, Make.path(59, 0), Make.path(1, 0), 1}) {
            due.is("create(0, " + path + ", 0, 0)", x.create(0, path, 0, 0), WatchTree.LOG_FULL);
            due.is("set(0, " + path + ", 0, 99)", x.set(0, path, 0, 99), WatchTree.LOG_FULL);
            due.is("remove(0, " + path + ", 99)", x.remove(0, path, 99), WatchTree.LOG_FULL);
        }
        WatchTree y = Make.withSessions(4);
        Make.fillLog(y, 40);
        due.is("open(20) with all open", y.open(20), WatchTree.REFUSED);
    }
}
