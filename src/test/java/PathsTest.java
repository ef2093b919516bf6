/** The sentences on PATHS, for every int that could be one by mistake and for every call that takes a path. */
public final class PathsTest {
    private static final Due due = new Due();
    /** 101 to the power of 3 is the least int with four digits. */
    private static final int FOUR_DIGITS = 1030301;
    private static final int[] LEVELS = {0, Make.path(5), Make.path(5, 6)};

    /** One call with this path, looked at. */
    private interface Asker {
        void ask(WatchTree x, int path);
    }

    public static void main(String[] args) {
        theRootIsZero();
        namesAreZeroToNinetyNine();
        atMostThreeNames();
        noDigitIsZero();
        parentAndName();
        due.end();
    }

    private static WatchTree withLevels() {
        WatchTree x = Make.withSessions(1);
        x.create(0, Make.path(5), 0, 0);
        x.create(0, Make.path(5, 6), 0, 0);
        return x;
    }

    private static void theRootIsZero() {
        due.says(0, "0 the root");
        WatchTree x = Make.withSessions(1);
        due.is("set(0, 0, 5, -1)", x.set(0, 0, 5, -1), 1);
        for (int kind = 0; kind < 3; kind++) {
            due.is("watch(0, " + kind + ", 0)", x.watch(0, kind, 0), 1);
        }
        x.part(3, 0, 0, 1);
        due.is("multi(0) with a check of the root", x.multi(0), 3);
        due.is("node(0, 0)", x.node(0, 0), 5);
    }

    private static void namesAreZeroToNinetyNine() {
        due.says(0, "the child with NAME n (0 .. 99) of path p is p * 101 + n + 1");
        for (int parent : LEVELS) {
            for (int name : new int[] {0, 1, 98, 99}) {
                WatchTree x = withLevels();
                int path = parent * 101 + name + 1;
                due.is("watch of name " + name + " below " + parent, x.watch(0, 2, path), 1);
                due.is("create of name " + name + " below " + parent, x.create(0, path, 7, 0), path);
                due.is("its parent has a child more", x.node(parent, 6), parent == LEVELS[2] ? 1 : 2);
                due.is("set of name " + name, x.set(0, path, 8, 0), 1);
                x.part(3, path, 0, 1);
                due.is("check of name " + name, x.multi(0) > 0, true);
                due.is("event(0)", x.event(0), Make.MADE + path);
                due.is("remove of name " + name, x.remove(0, path, 1) > 0, true);
            }
            for (int name : new int[] {-1, 100}) {
                int path = parent * 101 + name + 1;
                if (path != 0) {
                    noCallTakes(path);
                }
            }
        }
    }

    private static void noCallTakes(int path) {
        WatchTree x = withLevels();
        for (int flags = 0; flags < 4; flags++) {
            due.is("create(0, " + path + ", 0, " + flags + ")", x.create(0, path, 0, flags), WatchTree.NO_PATH);
            x.part(0, path, 0, flags);
            due.is("multi(0) with CREATE " + path + ", flags " + flags, x.multi(0), WatchTree.NO_PATH);
        }
        due.is("set(0, " + path + ", 0, -1)", x.set(0, path, 0, -1), WatchTree.NO_PATH);
        due.is("remove(0, " + path + ", -1)", x.remove(0, path, -1), WatchTree.NO_PATH);
        for (int kind = 1; kind < 4; kind++) {
            x.part(kind, path, 0, -1);
            due.is("multi(0) with part(" + kind + ", " + path + ", ..)", x.multi(0), WatchTree.NO_PATH);
        }
        for (int kind = 0; kind < 3; kind++) {
            due.is("watch(0, " + kind + ", " + path + ")", x.watch(0, kind, path), WatchTree.NO_PATH);
        }
        due.is("node(" + path + ", 0)", x.node(path, 0), WatchTree.NOTHING);
        due.is("child(" + path + ", 0)", x.child(path, 0), WatchTree.REFUSED);
        due.is("latest()", x.latest(), 3);
    }

    private static void atMostThreeNames() {
        due.says(0, "at most 3 names");
        int three = Make.path(5, 6, 7);
        WatchTree x = withLevels();
        due.is("three names", x.create(0, three, 0, 0), three);
        for (int flags = 0; flags < 4; flags++) {
            due.is("a fourth, flags " + flags, x.create(0, three * 101 + 1, 0, flags), WatchTree.NO_PATH);
        }
        due.is("watch of a fourth", x.watch(0, 2, three * 101 + 1), WatchTree.NO_PATH);
        due.is("the third has no child", x.child(three, 0), WatchTree.REFUSED);
        due.is("nor counts it one", x.node(three, 6), 0);
        noCallTakes(Make.path(0, 0, 0, 0));
        noCallTakes(Make.path(5, 6, 7, 8));
        noCallTakes(Make.path(19, 99, 99, 99));
        // Five names and more do not fit into an int: these are what wrap-around makes of them.
        noCallTakes(Make.path(30, 30, 30, 30, 30));
        noCallTakes(Make.path(99, 99, 99, 99, 99, 99));
    }

    /** By another way than the program's: all three digits are looked at at once. */
    private static boolean isPath(int path) {
        if (path < 0 || path >= FOUR_DIGITS) {
            return false;
        }
        int first = path / 10201;
        int second = path / 101 % 101;
        int third = path % 101;
        if (first > 0) {
            return second > 0 && third > 0;
        }
        return second == 0 || third > 0;
    }

    /** Both ends are asked for; the counter is a long so that it can pass the last int. */
    private static void forAll(long from, long to, Asker asker) {
        WatchTree x = withLevels();
        for (long path = from; path <= to; path++) {
            if (path % 256 == 0) {
                x = withLevels();
            }
            asker.ask(x, (int) path);
        }
    }

    /** What a request with the version 9, which no node has, or a new watch is due for this path. */
    private static int wantOf(int path, int ifThere) {
        if (!isPath(path)) {
            return WatchTree.NO_PATH;
        }
        boolean isThere = path == 0 || path == LEVELS[1] || path == LEVELS[2];
        return isThere ? ifThere : WatchTree.NO_NODE;
    }

    private static void noDigitIsZero() {
        due.says(0, "a path is a PATH if none of its 1 to 3 digits to the base 101 is 0, or it is 0");
        Asker[] askers = {
            (x, path) -> due.is("set(0, " + path + ", 0, 9)", x.set(0, path, 0, 9), wantOf(path, WatchTree.VERSION)),
            (x, path) -> due.is("remove(0, " + path + ", 9)", x.remove(0, path, 9),
                path == 0 ? WatchTree.NO_PATH : wantOf(path, WatchTree.VERSION)),
            (x, path) -> due.is("watch(0, 1, " + path + ")", x.watch(0, 1, path), wantOf(path, 1))};
        for (Asker asker : askers) {
            forAll(-300, FOUR_DIGITS + 10500, asker);
            forAll(Integer.MIN_VALUE, Integer.MIN_VALUE + 300L, asker);
            forAll(Integer.MAX_VALUE - 300L, Integer.MAX_VALUE, asker);
        }
    }

    private static void parentAndName() {
        due.says(0, "what p / 101 and p % 101 give tell the parent and the name");
        // With 20 nodes there CREATE tells for every path whether it knows the parent.
        for (int from = 1; from <= FOUR_DIGITS + 200; from += 250) {
            WatchTree x = Make.withNodes(20);
            for (int path = from; path < from + 250; path++) {
                int parent = path / 101;
                int want = parent > 20 ? WatchTree.NO_NODE : parent > 0 || path > 20 ? WatchTree.FULL : WatchTree.EXISTS;
                due.is("create(0, " + path + ", 0, 0)", x.create(0, path, 0, 0), isPath(path) ? want : WatchTree.NO_PATH);
            }
        }
    }
}
