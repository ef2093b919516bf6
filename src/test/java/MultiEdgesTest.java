/** The boundary cases of promises 9 to 11 and 23 and of the terms MULTI and CHECK, sentence by sentence. */
public final class MultiEdgesTest {
    private static final Due due = new Due();
    /** Kind, path, a, b of a part that is wrong in the tree of withTree(), and what is wrong. */
    private static final int[][] WRONG = {
        {0, 0, 0, 0, WatchTree.NO_PATH}, {0, -1, 0, 1, WatchTree.NO_PATH}, {0, 101, 0, 2, WatchTree.NO_PATH},
        {0, 1030301, 0, 3, WatchTree.NO_PATH}, {0, Make.path(59, 0), 0, 0, WatchTree.NO_NODE},
        {0, Make.path(59, 0), 0, 3, WatchTree.NO_NODE}, {0, Make.path(1, 0), 0, 0, WatchTree.CHILDLESS},
        {0, Make.path(1, 0), 0, 2, WatchTree.CHILDLESS}, {0, 1, 0, 0, WatchTree.EXISTS}, {0, 2, 0, 1, WatchTree.EXISTS},
        {1, -1, 0, -1, WatchTree.NO_PATH}, {1, 101, 0, 9, WatchTree.NO_PATH}, {1, 60, 0, -1, WatchTree.NO_NODE},
        {1, 60, 0, 9, WatchTree.NO_NODE}, {1, 1, 0, 1, WatchTree.VERSION}, {1, 0, 0, -2, WatchTree.VERSION},
        {2, 0, 0, -1, WatchTree.NO_PATH}, {2, 0, 0, 9, WatchTree.NO_PATH}, {2, 1040604, 0, 9, WatchTree.NO_PATH},
        {2, 60, 0, 9, WatchTree.NO_NODE}, {2, 1, 0, 9, WatchTree.VERSION}, {2, 1, 0, 0, WatchTree.CHILDREN},
        {2, 1, 0, -1, WatchTree.CHILDREN},
        {3, -1, 0, -1, WatchTree.NO_PATH}, {3, 101, 0, 9, WatchTree.NO_PATH}, {3, Integer.MAX_VALUE, 0, 0, WatchTree.NO_PATH},
        {3, 60, 0, -1, WatchTree.NO_NODE}, {3, 60, 0, 9, WatchTree.NO_NODE}, {3, 1, 0, 1, WatchTree.VERSION},
        {3, 1, 0, -2, WatchTree.VERSION}, {3, 0, 0, Integer.MIN_VALUE, WatchTree.VERSION},
        {3, 0, 0, Integer.MAX_VALUE, WatchTree.VERSION}};

    public static void main(String[] args) {
        sixWait();
        kindsOfParts();
        flagsOfParts();
        partLooksAtNothingElse();
        whatIsNotLookedAt();
        dataFlagsAndVersion();
        oneToSixParts();
        noneWaitsThen();
        eachWrongAtEachPlace();
        firstWrongCounts();
        nothingHasBeenDone();
        nothingIsTold();
        eachSeesThoseBefore();
        fullByThoseBefore();
        oneNumberForAll();
        checkChangesNothing();
        checkByVersion();
        multiRefused();
        partsAreGoneWhateverItAnswers();
        wrongPartByTheLatest();
        logFullComesBeforeWhatIsWrong();
        tellInTheirOrder();
        due.end();
    }

    /** Node 1 has the child 1/0, node 2 is owned by session 0, all versions are 0, the latest transaction is 5. */
    private static WatchTree withTree() {
        WatchTree x = Make.withSessions(2);
        x.create(0, 1, 5, 0);
        x.create(0, 2, 6, 1);
        x.create(0, Make.path(0, 0), 7, 0);
        return x;
    }

    private static void checks(WatchTree x, int n) {
        for (int i = 0; i < n; i++) {
            x.part(3, 0, 0, -1);
        }
    }

    private static void sixWait() {
        due.says(9, "how many wait. REFUSED if 6 wait");
        for (int kind = 0; kind < 4; kind++) {
            WatchTree x = new WatchTree();
            for (int n = 1; n <= 6; n++) {
                due.is("part(" + kind + ", 1, 0, 0), the " + n + ".", x.part(kind, 1, 0, 0), n);
            }
            for (int other = 0; other < 4; other++) {
                due.is("a seventh of kind " + other, x.part(other, 1, 0, 0), WatchTree.REFUSED);
            }
            x.open(20);
            x.multi(0);
            due.is("after multi", x.part(kind, 1, 0, 0), 1);
        }
    }

    private static void kindsOfParts() {
        due.says(9, "kind is not 0 .. 3");
        WatchTree x = new WatchTree();
        for (int kind : new int[] {Integer.MIN_VALUE, Integer.MIN_VALUE + 1, -1, 4, 5, Integer.MAX_VALUE - 1, Integer.MAX_VALUE}) {
            due.is("part(" + kind + ", 1, 0, 0)", x.part(kind, 1, 0, 0), WatchTree.REFUSED);
        }
        for (int kind = 0; kind < 4; kind++) {
            due.is("part(" + kind + ", 1, 0, 0), the refused do not wait", x.part(kind, 1, 0, 0), kind + 1);
        }
    }

    private static void flagsOfParts() {
        due.says(9, "or flags not 0 .. 3.");
        WatchTree x = new WatchTree();
        for (int flags : new int[] {Integer.MIN_VALUE, Integer.MIN_VALUE + 1, -1, 4, 5, Integer.MAX_VALUE - 1, Integer.MAX_VALUE}) {
            due.is("part(0, 1, 0, " + flags + ")", x.part(0, 1, 0, flags), WatchTree.REFUSED);
        }
        for (int flags = 0; flags < 4; flags++) {
            due.is("part(0, 1, 0, " + flags + ")", x.part(0, 1, 0, flags), flags + 1);
        }
        for (int kind = 1; kind < 4; kind++) {
            WatchTree y = new WatchTree();
            int n = 0;
            for (int version : Make.outside(0, 3)) {
                n++;
                due.is("part(" + kind + ", 1, 0, " + version + ") has a version, no flags", y.part(kind, 1, 0, version), n);
            }
        }
    }

    private static void partLooksAtNothingElse() {
        due.says(9, "Adds a part to the waiting ones");
        WatchTree x = new WatchTree();
        int n = 0;
        for (int path : new int[] {Integer.MIN_VALUE, -1, 101, 1030301, Integer.MAX_VALUE, 0}) {
            n++;
            due.is("part(0, " + path + ", 0, 2), no session is open", x.part(0, path, 0, 2), n);
        }
        WatchTree y = Make.withFullLog();
        due.is("part(1, 0, 0, -1) with a full log", y.part(1, 0, 0, -1), 1);
        due.is("latest()", y.latest(), 40);
    }

    private static void whatIsNotLookedAt() {
        due.says(9, "2 REMOVE path, b = version, 3 CHECK path, b = version");
        for (int a : new int[] {Integer.MIN_VALUE, -1, 0, 7, Integer.MAX_VALUE}) {
            WatchTree x = withTree();
            x.part(3, 1, a, 0);
            x.part(2, 2, a, 0);
            due.is("multi(0) with a = " + a, x.multi(0), 6);
            due.node(x, 1, 5, 0, 1, 3, 3, -1, 1);
            due.is("state()", x.state(), 3 + 16 * 2);
        }
    }

    private static void dataFlagsAndVersion() {
        due.says(9, "kind 0 CREATE path, a = data, b = flags, 1 SET path, a = data, b = version");
        int[] ends = {Integer.MIN_VALUE, -1, 0, 1, Integer.MAX_VALUE};
        for (int flags = 0; flags < 4; flags++) {
            WatchTree x = Make.withSessions(2);
            for (int data : ends) {
                int made = flags < 2 ? x.latest() + 50 : Make.path((int) x.node(0, 2));
                x.part(0, x.latest() + 50, data, flags);
                due.is("multi(1) with flags " + flags + ", data " + data, x.multi(1) > 0, true);
                due.is("the data", x.node(made, 0), data);
                due.is("the owner", x.node(made, 5), flags % 2 == 1 ? 1 : -1);
            }
        }
        WatchTree y = withTree();
        for (int i = 0; i < ends.length; i++) {
            y.part(1, 1, ends[i], i + 1);
            due.is("a version above", y.multi(0), WatchTree.VERSION);
            y.part(1, 1, ends[i], i);
            due.is("the version", y.multi(0), 6 + i);
            due.is("the data", y.node(1, 0), ends[i]);
            due.is("the version then", y.node(1, 1), i + 1);
        }
        y.part(1, 1, 8, -1);
        due.is("any version", y.multi(0), 11);
    }

    private static void noneWaitsThen() {
        due.says(10, "Does the waiting parts (none waits then) as a multi request: the number of the transaction.");
        WatchTree x = Make.withSessions(2);
        for (int i = 1; i <= 10; i++) {
            checks(x, 1 + i % 6);
            due.is("multi(" + i % 2 + ")", x.multi(i % 2), 2 + i);
            due.is("latest()", x.latest(), 2 + i);
            due.is("none waits", x.multi(i % 2), WatchTree.REFUSED);
        }
    }

    private static void oneToSixParts() {
        due.says(0, "A MULTI request does its parts (1 .. 6) in their order");
        for (int n = 0; n <= 6; n++) {
            WatchTree x = Make.withSessions(1);
            for (int i = 1; i <= n; i++) {
                x.part(0, i, 10 * i, 0);
            }
            due.is("multi(0) with " + n, x.multi(0), n == 0 ? WatchTree.REFUSED : 2);
            due.is("wrongPart()", x.wrongPart(), -1);
            due.is("state()", x.state(), 1 + 16 * n);
            for (int i = 1; i <= n; i++) {
                due.node(x, i, 10 * i, 0, 0, 2, 2, -1, 0);
            }
            due.is("node(0, 2)", x.node(0, 2), n);
        }
    }

    private static void eachWrongAtEachPlace() {
        due.says(11, "the part (0 the first) in which something was wrong");
        for (int[] wrong : WRONG) {
            for (int before = 0; before < 6; before++) {
                WatchTree x = withTree();
                checks(x, before);
                x.part(wrong[0], wrong[1], wrong[2], wrong[3]);
                checks(x, 5 - before);
                String part = "part(" + wrong[0] + ", " + wrong[1] + ", " + wrong[2] + ", " + wrong[3] + ")";
                due.is("multi(0) with " + part + " as number " + before, x.multi(0), wrong[4]);
                due.is("wrongPart()", x.wrongPart(), before);
                due.is("latest()", x.latest(), 5);
                due.is("state()", x.state(), 3 + 16 * 3);
            }
        }
    }

    private static void firstWrongCounts() {
        due.says(0, "A MULTI request does its parts (1 .. 6) in their order");
        WatchTree x = withTree();
        x.part(3, 0, 0, -1);
        x.part(0, 1, 0, 0);
        x.part(3, 60, 0, -1);
        x.part(2, 0, 0, -1);
        due.is("multi(0)", x.multi(0), WatchTree.EXISTS);
        due.is("wrongPart()", x.wrongPart(), 1);
    }

    private static void nothingHasBeenDone() {
        due.says(0, "if one is wrong nothing has been done.");
        WatchTree x = withTree();
        x.part(2, Make.path(0, 0), 0, -1);
        x.part(2, 1, 0, -1);
        x.part(1, 2, 99, -1);
        x.part(0, 3, 99, 1);
        x.part(1, 0, 99, -1);
        x.part(3, 60, 0, -1);
        due.is("multi(1)", x.multi(1), WatchTree.NO_NODE);
        due.node(x, 0, 0, 0, 2, 0, 0, -1, 2);
        due.node(x, 1, 5, 0, 1, 3, 3, -1, 1);
        due.node(x, 2, 6, 0, 0, 4, 4, 0, 0);
        due.node(x, Make.path(0, 0), 7, 0, 0, 5, 5, -1, 0);
        due.is("node(3, 0)", x.node(3, 0), WatchTree.NOTHING);
        due.is("state()", x.state(), 3 + 16 * 3);
        due.is("logged()", x.logged(), 5);
        due.is("the next number", x.create(1, 3, 0, 0), 3);
        due.is("latest()", x.latest(), 6);
        due.is("close(1) owns nothing", x.close(1), 0);
    }

    private static void nothingIsTold() {
        due.says(0, "if one is wrong nothing has been done.");
        WatchTree x = withTree();
        x.watch(1, 2, 3);
        x.watch(1, 0, 2);
        x.watch(1, 1, 0);
        x.part(0, 3, 0, 0);
        x.part(1, 2, 0, -1);
        x.part(3, 60, 0, -1);
        due.is("multi(0)", x.multi(0), WatchTree.NO_NODE);
        due.is("watches()", x.watches(), 3);
        due.events(x, 1);
        due.is("set(0, 1, 0, -1)", x.set(0, 1, 0, -1), 1);
        due.is("close(0) takes node 2", x.close(0), 1);
        due.events(x, 1, Make.GONE + 2, Make.CHILDREN);
    }

    private static void eachSeesThoseBefore() {
        due.says(0, "each seeing what those before did");
        WatchTree x = Make.withSessions(1);
        x.part(0, 1, 0, 0);
        x.part(0, Make.path(0, 0), 0, 0);
        x.part(0, Make.path(0, 0, 0), 0, 1);
        x.part(1, 1, 8, 0);
        x.part(1, 1, 9, 1);
        x.part(3, 1, 0, 2);
        due.is("made, set twice, checked", x.multi(0), 2);
        due.node(x, 1, 9, 2, 1, 2, 2, -1, 1);
        x.part(0, Make.path(0, 0, 0), 0, 0);
        due.is("it is there", x.multi(0), WatchTree.EXISTS);
        x.part(2, Make.path(0, 0, 0), 0, 0);
        x.part(2, Make.path(0, 0), 0, 0);
        x.part(2, 1, 0, 2);
        x.part(0, 1, 4, 2);
        x.part(0, 1, 5, 0);
        due.is("removed from below, the number 2 made, made anew", x.multi(0), 3);
        due.node(x, Make.path(2), 4, 0, 0, 3, 3, -1, 0);
        due.node(x, 1, 5, 0, 0, 3, 3, -1, 0);
        x.part(0, 60, 0, 1);
        x.part(0, Make.path(59, 0), 0, 0);
        due.is("below what a part made, owned", x.multi(0), WatchTree.CHILDLESS);
        x.part(2, 1, 0, -1);
        x.part(1, 1, 0, -1);
        due.is("what a part removed", x.multi(0), WatchTree.NO_NODE);
        x.part(1, 1, 0, 0);
        x.part(1, 1, 0, 0);
        due.is("the version before", x.multi(0), WatchTree.VERSION);
        x.part(0, Make.path(0, 0), 0, 0);
        x.part(2, 1, 0, -1);
        due.is("a part gave it a child", x.multi(0), WatchTree.CHILDREN);
        due.is("wrongPart()", x.wrongPart(), 1);
    }

    private static void fullByThoseBefore() {
        due.says(0, "FULL: 20 are there.");
        WatchTree x = Make.withNodes(14);
        for (int i = 0; i < 6; i++) {
            x.part(0, 50 + i, 0, 0);
        }
        due.is("six more than 14", x.multi(0), 16);
        due.is("state()", x.state(), 1 + 16 * 20);
        WatchTree y = Make.withNodes(15);
        for (int i = 0; i < 6; i++) {
            y.part(0, 50 + i, 0, 0);
        }
        due.is("six more than 15", y.multi(0), WatchTree.FULL);
        due.is("wrongPart()", y.wrongPart(), 5);
        due.is("state()", y.state(), 1 + 16 * 15);
        x.part(2, 50, 0, -1);
        x.part(0, 60, 0, 0);
        due.is("a part makes room", x.multi(0), 17);
        x.part(0, 61, 0, 0);
        x.part(2, 60, 0, -1);
        due.is("too late", x.multi(0), WatchTree.FULL);
        due.is("wrongPart()", x.wrongPart(), 0);
    }

    private static void oneNumberForAll() {
        due.says(0, "with one transaction number");
        WatchTree x = withTree();
        x.part(0, 3, 0, 0);
        x.part(1, 1, 0, -1);
        x.part(1, 0, 0, -1);
        x.part(0, 4, 0, 3);
        due.is("multi(1)", x.multi(1), 6);
        due.is("latest()", x.latest(), 6);
        due.is("logged()", x.logged(), 6);
        due.is("CREATED of 3", x.node(3, 3), 6);
        due.is("SET of 3", x.node(3, 4), 6);
        due.is("SET of 1", x.node(1, 4), 6);
        due.is("CREATED of 1", x.node(1, 3), 3);
        due.is("SET of the root", x.node(0, 4), 6);
        due.is("owner of 4", x.node(4, 5), 1);
    }

    private static void checkChangesNothing() {
        due.says(0, "CHECK path, version (in multi requests only): NO_PATH: no path. NO_NODE. VERSION. Nothing changes.");
        WatchTree x = withTree();
        for (int kind = 0; kind < 3; kind++) {
            x.watch(1, kind, 1);
            x.watch(1, kind, 0);
        }
        x.part(3, 1, 99, 0);
        x.part(3, 0, 99, -1);
        x.part(3, 1, 99, 0);
        due.is("multi(0)", x.multi(0), 6);
        due.node(x, 0, 0, 0, 2, 0, 0, -1, 2);
        due.node(x, 1, 5, 0, 1, 3, 3, -1, 1);
        due.is("watches()", x.watches(), 6);
        due.events(x, 1);
        due.is("it is a transaction", x.latest(), 6);
    }

    private static void checkByVersion() {
        due.says(0, "VERSION: version is neither -1 nor the node's.");
        WatchTree x = withTree();
        x.set(0, 1, 0, -1);
        x.set(0, 1, 0, -1);
        for (int version = -3; version <= 4; version++) {
            x.part(3, 1, 0, version);
            boolean isRight = version == -1 || version == 2;
            int next = x.latest() + 1;
            due.is("a check of the version " + version, x.multi(0), isRight ? next : WatchTree.VERSION);
            due.is("wrongPart()", x.wrongPart(), isRight ? -1 : 0);
        }
    }

    private static void multiRefused() {
        due.says(10, "REFUSED if the session is not open or none waited");
        WatchTree x = Make.withSessions(3);
        x.close(1);
        for (int session : new int[] {Integer.MIN_VALUE, Integer.MIN_VALUE + 1, -1, 1, 3, 4, Integer.MAX_VALUE - 1, Integer.MAX_VALUE}) {
            x.part(0, 1, 0, 0);
            due.is("multi(" + session + ")", x.multi(session), WatchTree.REFUSED);
            due.is("multi(" + session + ") with none", x.multi(session), WatchTree.REFUSED);
        }
        due.is("multi(0) with none", x.multi(0), WatchTree.REFUSED);
        due.is("latest()", x.latest(), 4);
        due.is("state()", x.state(), 5);
    }

    private static void partsAreGoneWhateverItAnswers() {
        due.says(23, "multi: the waiting parts are gone whatever it answers");
        WatchTree x = Make.withSessions(1);
        checks(x, 6);
        due.is("done", x.multi(0), 2);
        due.is("part", x.part(3, 60, 0, -1), 1);
        checks(x, 5);
        due.is("wrong", x.multi(0), WatchTree.NO_NODE);
        due.is("part", x.part(3, 0, 0, -1), 1);
        checks(x, 5);
        due.is("refused", x.multi(3), WatchTree.REFUSED);
        due.is("part", x.part(3, 0, 0, -1), 1);
        x.multi(0);
        Make.fillLog(x, 40);
        checks(x, 6);
        due.is("log full", x.multi(0), WatchTree.LOG_FULL);
        due.is("part", x.part(3, 0, 0, -1), 1);
        x.save(24);
        due.is("only the last waits", x.multi(0), 41);
        due.is("none waits", x.multi(0), WatchTree.REFUSED);
    }

    private static void wrongPartByTheLatest() {
        due.says(11, "By the latest multi(): the part (0 the first) in which something was wrong; -1 else.");
        WatchTree x = Make.withSessions(1);
        due.is("before any", x.wrongPart(), -1);
        checks(x, 5);
        x.part(3, 60, 0, -1);
        x.multi(0);
        due.is("the sixth", x.wrongPart(), 5);
        x.part(3, 60, 0, -1);
        due.is("a part that waits is none", x.wrongPart(), 5);
        x.create(0, 0, 0, 0);
        x.set(0, 0, 0, -1);
        due.is("a single request is none", x.wrongPart(), 5);
        x.crash();
        due.is("a crash is none", x.wrongPart(), 5);
        x.part(3, 60, 0, -1);
        x.multi(0);
        due.is("the first", x.wrongPart(), 0);
        checks(x, 1);
        x.multi(0);
        due.is("one that is done", x.wrongPart(), -1);
        due.says(23, "when it answers REFUSED or LOG_FULL, wrongPart is -1.");
        x.part(3, 60, 0, -1);
        x.multi(0);
        due.is("wrong", x.wrongPart(), 0);
        due.is("none waited", x.multi(0), WatchTree.REFUSED);
        due.is("wrongPart()", x.wrongPart(), -1);
        x.part(3, 60, 0, -1);
        x.multi(0);
        x.part(3, 60, 0, -1);
        due.is("not open", x.multi(1), WatchTree.REFUSED);
        due.is("wrongPart()", x.wrongPart(), -1);
        x.part(3, 60, 0, -1);
        x.multi(0);
        Make.fillLog(x, 40);
        due.is("wrong", x.wrongPart(), 0);
        x.part(3, 60, 0, -1);
        due.is("log full", x.multi(0), WatchTree.LOG_FULL);
        due.is("wrongPart()", x.wrongPart(), -1);
    }

    private static void logFullComesBeforeWhatIsWrong() {
        due.says(10, "REFUSED if the session is not open or none waited; LOG_FULL; else what is wrong.");
        for (int[] wrong : WRONG) {
            WatchTree x = withTree();
            Make.fillLog(x, 39);
            x.part(wrong[0], wrong[1], wrong[2], wrong[3]);
            due.is("with 39 in the log", x.multi(0) < 0, true);
            Make.fillLog(x, 40);
            x.part(wrong[0], wrong[1], wrong[2], wrong[3]);
            due.is("with 40 in the log", x.multi(0), WatchTree.LOG_FULL);
            x.part(wrong[0], wrong[1], wrong[2], wrong[3]);
            due.is("not open, with 40 in the log", x.multi(2), WatchTree.REFUSED);
            due.is("none waited, with 40 in the log", x.multi(0), WatchTree.REFUSED);
        }
        WatchTree y = Make.withSessions(1);
        Make.fillLog(y, 39);
        checks(y, 6);
        due.is("the 40th", y.multi(0), 40);
        checks(y, 1);
        due.is("a 41st", y.multi(0), WatchTree.LOG_FULL);
        due.is("latest()", y.latest(), 40);
    }

    private static void tellInTheirOrder() {
        due.says(0, "The parts of a multi request .. tell in their order, when all is done");
        WatchTree x = withTree();
        x.watch(1, 2, 9);
        x.watch(1, 2, 8);
        x.watch(1, 0, 1);
        x.watch(1, 0, Make.path(0, 0));
        x.watch(1, 1, 0);
        x.part(0, 9, 0, 0);
        x.part(2, Make.path(0, 0), 0, -1);
        x.part(1, 1, 0, -1);
        x.part(0, 8, 0, 0);
        x.part(2, 9, 0, -1);
        due.is("multi(0)", x.multi(0), 6);
        due.events(x, 1, Make.MADE + 9, Make.CHILDREN, Make.GONE + Make.path(0, 0), Make.SET + 1, Make.MADE + 8);
        due.is("watches()", x.watches(), 0);
    }
}
