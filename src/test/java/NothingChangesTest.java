import java.util.function.ToLongFunction;

/**
 * "What is wrong changes nothing", and so does what is refused: each such call is made in several
 * states, and all the object's later answers must be those of an object that never got it. Only
 * multi() is not here: its parts are gone whatever it answers (MultiEdgesTest).
 */
public final class NothingChangesTest {
    private static final Due due = new Due();

    private static void unchanged(Scene scene, String call, ToLongFunction<WatchTree> made, long want) {
        Looks.unchanged(due, scene, call, made, want);
    }

    public static void main(String[] args) {
        scenesAreAsTold();
        for (Scene scene : Scene.values()) {
            sessionsThatAreNone(scene);
            openOfNoTimeout(scene);
            passOfNoTime(scene);
            createWithNoFlags(scene);
            partOfNoKindOrFlags(scene);
            watchOfNoKind(scene);
            saveOfNoPlaces(scene);
            looks(scene);
        }
        wrongRequests();
        wrongVersions();
        wrongWatches();
        sessionThatIsNotOpen();
        noRoom();
        logFull();
        due.end();
    }

    private static void scenesAreAsTold() {
        due.says(1, "The root alone, no sessions, an empty log, no snapshot under way.");
        WatchTree fresh = Scene.FRESH.make();
        due.is("state()", fresh.state(), 0);
        due.is("logged()", fresh.logged(), 0);
        due.is("save(1)", fresh.save(1), 23);
        due.says(18, "Which sessions are open, as bits; + 16 * how many nodes there are besides the root.");
        due.is("state() with 0, 1, 3 open and 4 nodes", Scene.BUSY.make().state(), 11 + 16 * 4);
        due.is("state() with all open and 20 nodes", Scene.CROWDED.make().state(), 15 + 16 * 20);
        due.is("state() with 0, 1 open and 2 nodes", Scene.LOG_FULL.make().state(), 3 + 16 * 2);
        due.is("watches()", Scene.CROWDED.make().watches(), 16);
        due.is("logged()", Scene.LOG_FULL.make().logged(), 40);
        due.is("save(1)", Scene.LOG_FULL.make().save(1), 20);
    }

    private static void sessionsThatAreNone(Scene scene) {
        due.says(0, "SESSIONS 0 .. 3 are open or not");
        for (int s : Make.outside(0, 3)) {
            unchanged(scene, "close(" + s + ")", x -> x.close(s), WatchTree.REFUSED);
            unchanged(scene, "touch(" + s + ")", x -> x.touch(s) ? 1 : 0, 0);
            unchanged(scene, "create(" + s + ", 60, 0, 0)", x -> x.create(s, 60, 0, 0), WatchTree.REFUSED);
            unchanged(scene, "set(" + s + ", 0, 0, -1)", x -> x.set(s, 0, 0, -1), WatchTree.REFUSED);
            unchanged(scene, "remove(" + s + ", 2, -1)", x -> x.remove(s, 2, -1), WatchTree.REFUSED);
            unchanged(scene, "watch(" + s + ", 2, 60)", x -> x.watch(s, 2, 60), WatchTree.REFUSED);
            unchanged(scene, "event(" + s + ")", x -> x.event(s), WatchTree.REFUSED);
            unchanged(scene, "left(" + s + ")", x -> x.left(s), WatchTree.REFUSED);
        }
    }

    private static void openOfNoTimeout(Scene scene) {
        due.says(2, "REFUSED if timeout is not 1 .. 20");
        for (int timeout : Make.outside(1, 20)) {
            unchanged(scene, "open(" + timeout + ")", x -> x.open(timeout), WatchTree.REFUSED);
        }
        unchanged(scene, "open(-1)", x -> x.open(-1), WatchTree.REFUSED);
    }

    private static void passOfNoTime(Scene scene) {
        due.says(5, "The time goes on by n (0 .. 30, else REFUSED)");
        for (int n : Make.outside(0, 30)) {
            unchanged(scene, "pass(" + n + ")", x -> x.pass(n), WatchTree.REFUSED);
        }
        unchanged(scene, "pass(0)", x -> x.pass(0), 0);
    }

    private static void createWithNoFlags(Scene scene) {
        due.says(6, "REFUSED if the session is not open or flags not 0 .. 3");
        for (int flags : Make.outside(0, 3)) {
            unchanged(scene, "create(0, 60, 0, " + flags + ")", x -> x.create(0, 60, 0, flags), WatchTree.REFUSED);
        }
    }

    private static void partOfNoKindOrFlags(Scene scene) {
        due.says(9, "REFUSED if 6 wait, kind is not 0 .. 3, or flags not 0 .. 3.");
        for (int i : Make.outside(0, 3)) {
            unchanged(scene, "part(" + i + ", 0, 0, 0)", x -> x.part(i, 0, 0, 0), WatchTree.REFUSED);
            unchanged(scene, "part(0, 60, 0, " + i + ")", x -> x.part(0, 60, 0, i), WatchTree.REFUSED);
        }
    }

    private static void watchOfNoKind(Scene scene) {
        due.says(12, "REFUSED if the session is not open or kind not 0 .. 2");
        for (int kind : Make.outside(0, 2)) {
            unchanged(scene, "watch(0, " + kind + ", 0)", x -> x.watch(0, kind, 0), WatchTree.REFUSED);
        }
    }

    private static void saveOfNoPlaces(Scene scene) {
        due.says(20, "The snapshot takes n more places (1 .. 24, else REFUSED");
        for (int n : Make.outside(1, 24)) {
            unchanged(scene, "save(" + n + ")", x -> x.save(n), WatchTree.REFUSED);
        }
        unchanged(scene, "save(-1)", x -> x.save(-1), WatchTree.REFUSED);
    }

    private static void looks(Scene scene) {
        due.says(15, "NOTHING if it is not there or what is another.");
        for (int what : Make.outside(0, 6)) {
            unchanged(scene, "node(0, " + what + ")", x -> x.node(0, what), WatchTree.NOTHING);
        }
        for (int path : Make.noPaths()) {
            unchanged(scene, "node(" + path + ", 0)", x -> x.node(path, 0), WatchTree.NOTHING);
        }
        due.says(16, "REFUSED if there is none.");
        for (int k : Make.outside(0, 19)) {
            unchanged(scene, "child(0, " + k + ")", x -> x.child(0, k), WatchTree.REFUSED);
        }
        for (int path : Make.noPaths()) {
            unchanged(scene, "child(" + path + ", 0)", x -> x.child(path, 0), WatchTree.REFUSED);
        }
    }

    private static void wrongRequests() {
        Scene busy = Scene.BUSY;
        due.says(0, "REQUESTS of an open session, each with what can be WRONG, in this order; what is wrong changes nothing");
        for (int path : Make.noPaths()) {
            for (int flags = 0; flags < 4; flags++) {
                int f = flags;
                unchanged(busy, "create(0, " + path + ", 0, " + f + ")", x -> x.create(0, path, 0, f), WatchTree.NO_PATH);
            }
            unchanged(busy, "set(0, " + path + ", 0, -1)", x -> x.set(0, path, 0, -1), WatchTree.NO_PATH);
            unchanged(busy, "remove(0, " + path + ", -1)", x -> x.remove(0, path, -1), WatchTree.NO_PATH);
        }
        int below = Make.path(59, 0);
        for (int flags = 0; flags < 4; flags++) {
            int f = flags;
            unchanged(busy, "create the root, flags " + f, x -> x.create(0, 0, 0, f), WatchTree.NO_PATH);
            unchanged(busy, "create with no parent, flags " + f, x -> x.create(0, below, 0, f), WatchTree.NO_NODE);
            unchanged(busy, "create below an owned node, flags " + f, x -> x.create(0, Make.path(1, 0), 0, f), WatchTree.CHILDLESS);
        }
        unchanged(busy, "create what is there", x -> x.create(0, 1, 0, 0), WatchTree.EXISTS);
        unchanged(busy, "create what is there, owned", x -> x.create(0, 1, 0, 1), WatchTree.EXISTS);
        unchanged(busy, "set what is not there", x -> x.set(0, 60, 0, -1), WatchTree.NO_NODE);
        unchanged(busy, "remove what is not there", x -> x.remove(0, 60, -1), WatchTree.NO_NODE);
        unchanged(busy, "remove the root", x -> x.remove(0, 0, -1), WatchTree.NO_PATH);
        unchanged(busy, "remove what has children", x -> x.remove(0, 1, -1), WatchTree.CHILDREN);
        unchanged(busy, "remove what has children, by version", x -> x.remove(0, Make.path(0, 0), 0), WatchTree.CHILDREN);
    }

    private static void wrongVersions() {
        due.says(0, "VERSION: version is neither -1 nor the node's.");
        // Node 1 has the version 1, node 2 the version 0.
        for (int version : new int[] {Integer.MIN_VALUE, Integer.MIN_VALUE + 1, -2, 0, 2, Integer.MAX_VALUE - 1, Integer.MAX_VALUE}) {
            unchanged(Scene.BUSY, "set(0, 1, 0, " + version + ")", x -> x.set(0, 1, 0, version), WatchTree.VERSION);
            unchanged(Scene.BUSY, "remove(0, 1, " + version + ")", x -> x.remove(0, 1, version), WatchTree.VERSION);
        }
        for (int version : new int[] {Integer.MIN_VALUE, -2, 1, Integer.MAX_VALUE}) {
            unchanged(Scene.BUSY, "set(0, 2, 0, " + version + ")", x -> x.set(0, 2, 0, version), WatchTree.VERSION);
            unchanged(Scene.BUSY, "remove(0, 2, " + version + ")", x -> x.remove(0, 2, version), WatchTree.VERSION);
        }
    }

    private static void wrongWatches() {
        Scene busy = Scene.BUSY;
        due.says(12, "0 if the session has that one already. .. NO_PATH; NO_NODE (kinds 0, 1)");
        for (int kind = 0; kind < 3; kind++) {
            int k = kind;
            for (int path : Make.noPaths()) {
                unchanged(busy, "watch(0, " + k + ", " + path + ")", x -> x.watch(0, k, path), WatchTree.NO_PATH);
            }
        }
        unchanged(busy, "watch(0, 0, 60)", x -> x.watch(0, 0, 60), WatchTree.NO_NODE);
        unchanged(busy, "watch(0, 1, 60)", x -> x.watch(0, 1, 60), WatchTree.NO_NODE);
        unchanged(busy, "watch(0, 0, 1)", x -> x.watch(0, 0, 1), 0);
        unchanged(busy, "watch(0, 1, 0)", x -> x.watch(0, 1, 0), 0);
        unchanged(busy, "watch(1, 2, 50)", x -> x.watch(1, 2, 50), 0);
        due.says(13, "REFUSED if there is none, or the session is not open.");
        unchanged(busy, "event(1)", x -> x.event(1), WatchTree.REFUSED);
    }

    private static void sessionThatIsNotOpen() {
        Scene busy = Scene.BUSY;
        due.says(3, "REFUSED if it is not open.");
        unchanged(busy, "close(2)", x -> x.close(2), WatchTree.REFUSED);
        due.says(4, "false if it is not open.");
        unchanged(busy, "touch(2)", x -> x.touch(2) ? 1 : 0, 0);
        due.says(6, "REFUSED if the session is not open");
        unchanged(busy, "create(2, 60, 0, 0)", x -> x.create(2, 60, 0, 0), WatchTree.REFUSED);
        due.says(7, "REFUSED, LOG_FULL or what is wrong likewise.");
        unchanged(busy, "set(2, 0, 0, -1)", x -> x.set(2, 0, 0, -1), WatchTree.REFUSED);
        due.says(8, "the parent's child version then; likewise.");
        unchanged(busy, "remove(2, 2, -1)", x -> x.remove(2, 2, -1), WatchTree.REFUSED);
        due.says(12, "REFUSED if the session is not open");
        unchanged(busy, "watch(2, 2, 60)", x -> x.watch(2, 2, 60), WatchTree.REFUSED);
        due.says(13, "REFUSED if there is none, or the session is not open.");
        unchanged(busy, "event(2)", x -> x.event(2), WatchTree.REFUSED);
        due.says(19, "REFUSED if it is not open.");
        unchanged(busy, "left(2)", x -> x.left(2), WatchTree.REFUSED);
    }

    private static void noRoom() {
        Scene crowded = Scene.CROWDED;
        due.says(2, "REFUSED if .. all are open");
        unchanged(crowded, "open(1)", x -> x.open(1), WatchTree.REFUSED);
        unchanged(crowded, "open(20)", x -> x.open(20), WatchTree.REFUSED);
        due.says(0, "FULL: 20 are there.");
        for (int flags = 0; flags < 4; flags++) {
            int f = flags;
            unchanged(crowded, "create(0, 60, 0, " + f + ")", x -> x.create(0, 60, 0, f), WatchTree.FULL);
            unchanged(crowded, "create below 13, flags " + f, x -> x.create(3, Make.path(12, 9), 0, f), WatchTree.FULL);
        }
        due.says(9, "REFUSED if 6 wait");
        for (int kind = 0; kind < 4; kind++) {
            int k = kind;
            unchanged(crowded, "part(" + k + ", 1, 0, 0)", x -> x.part(k, 1, 0, 0), WatchTree.REFUSED);
        }
        due.says(12, "FULL if there are 16.");
        for (int session = 0; session < 4; session++) {
            int s = session;
            unchanged(crowded, "watch(" + s + ", 0, 0)", x -> x.watch(s, 0, 0), WatchTree.FULL);
            unchanged(crowded, "watch(" + s + ", 1, 2)", x -> x.watch(s, 1, 2), WatchTree.FULL);
            unchanged(crowded, "watch(" + s + ", 2, 51)", x -> x.watch(s, 2, 51), WatchTree.FULL);
        }
    }

    private static void logFull() {
        Scene full = Scene.LOG_FULL;
        due.says(0, "With 40 or more in it CREATE, SET, REMOVE, multi requests and open() are LOG_FULL");
        unchanged(full, "open(1)", x -> x.open(1), WatchTree.LOG_FULL);
        unchanged(full, "open(20)", x -> x.open(20), WatchTree.LOG_FULL);
        for (int flags = 0; flags < 4; flags++) {
            int f = flags;
            unchanged(full, "create(0, 60, 0, " + f + ")", x -> x.create(0, 60, 0, f), WatchTree.LOG_FULL);
        }
        unchanged(full, "set(0, 0, 0, -1)", x -> x.set(0, 0, 0, -1), WatchTree.LOG_FULL);
        unchanged(full, "remove(0, 1, -1)", x -> x.remove(0, 1, -1), WatchTree.LOG_FULL);
        due.says(23, "REFUSED is tested before LOG_FULL, and this before what is wrong.");
        unchanged(full, "set(2, 0, 0, -1)", x -> x.set(2, 0, 0, -1), WatchTree.REFUSED);
        unchanged(full, "remove(2, 1, -1)", x -> x.remove(2, 1, -1), WatchTree.REFUSED);
        unchanged(full, "create(2, 60, 0, 0)", x -> x.create(2, 60, 0, 0), WatchTree.REFUSED);
        for (int path : Make.noPaths()) {
            unchanged(full, "create(0, " + path + ", 0, 0)", x -> x.create(0, path, 0, 0), WatchTree.LOG_FULL);
            unchanged(full, "set(0, " + path + ", 0, -1)", x -> x.set(0, path, 0, -1), WatchTree.LOG_FULL);
            unchanged(full, "remove(0, " + path + ", -1)", x -> x.remove(0, path, -1), WatchTree.LOG_FULL);
        }
    }
}
