/**
 * A coordination service: a small tree of nodes with versions, sessions, watches that tell once,
 * requests that are done all or not at all, and a memory that outlasts a crash.
 */
public final class WatchTree {
    public static final int REFUSED = -1, NO_PATH = -2, NO_NODE = -3, CHILDLESS = -4, EXISTS = -5, FULL = -6, VERSION = -7, CHILDREN = -8, LOG_FULL = -9;
    public static final long NOTHING = -4000000000L;

    // Find methods answer this when there is none; it also stands for no session and no part.
    private static final int NONE = -1;

    private static final int ROOT = 0;
    private static final int BASE = 101;
    private static final int NAMES = 100;
    private static final int MOST_NAMES = 3;
    private static final int GREATEST_PATH = BASE * BASE * BASE - 1;

    // A node is a record of RECORD ints in one array, so that a multi request can keep and
    // bring back the whole tree at once. Up to OWNER the order is that of node()'s "what".
    private static final int NODE_DATA = 0;
    private static final int NODE_VERSION = 1;
    private static final int NODE_CHILD_VERSION = 2;
    private static final int NODE_CREATED = 3;
    private static final int NODE_SET = 4;
    private static final int NODE_OWNER = 5;
    private static final int NODE_PATH = 6;
    private static final int RECORD = 7;
    private static final int WHAT_CHILDREN = 6;
    private static final int MOST_NODES = 20;
    private static final int TREE = (MOST_NODES + 1) * RECORD;

    private static final int OWNED = 1;
    private static final int NUMBERED = 2;
    private static final int MOST_FLAGS = 3;
    private static final int ANY_VERSION = -1;

    private static final int SESSIONS = 4;
    private static final int MOST_TIMEOUT = 20;
    private static final int MOST_PASS = 30;

    private static final int KIND_CREATE = 0;
    private static final int KIND_SET = 1;
    private static final int KIND_REMOVE = 2;
    private static final int KIND_CHECK = 3;
    private static final int MOST_PARTS = 6;

    private static final int WATCH_THERE = 2;
    private static final int MOST_WATCHES = 16;
    // Which kinds of watches tell of something: bit 0 DATA, bit 1 CHILDREN, bit 2 THERE.
    private static final int TOLD_OF_MADE = 4;
    private static final int TOLD_OF_GONE = 7;
    private static final int TOLD_OF_SET = 5;
    private static final int TOLD_OF_CHILDREN = 2;

    private static final int MADE = 1;
    private static final int GONE = 2;
    private static final int HAS_BEEN_SET = 3;
    private static final int CHILDREN_CHANGED = 4;
    private static final int EVENT_UNIT = 1 << 21;
    private static final int MOST_EVENTS = 8;
    private static final int EVENT_PLACES = SESSIONS * MOST_EVENTS;

    private static final int LOG_LIMIT = 40;
    private static final int PLACES = 24;

    private final int[] tree = new int[TREE];
    private final int[] treeBefore = new int[TREE];

    // A timeout of 0 says that the session is not open.
    private final int[] timeouts = new int[SESSIONS];
    private final int[] deadlines = new int[SESSIONS];
    private int time;

    private final int[] events = new int[EVENT_PLACES];
    private final int[] eventCounts = new int[SESSIONS];

    // A watch whose session is NONE is a free place.
    private final int[] watchSessions = new int[MOST_WATCHES];
    private final int[] watchKinds = new int[MOST_WATCHES];
    private final int[] watchPaths = new int[MOST_WATCHES];

    private final int[] partKinds = new int[MOST_PARTS];
    private final int[] partPaths = new int[MOST_PARTS];
    private final int[] partAs = new int[MOST_PARTS];
    private final int[] partBs = new int[MOST_PARTS];
    private int partCount;
    private int wrongAt;

    // What the transaction under way did to nodes: it is told only when all of it is done.
    private final int[] changePaths = new int[MOST_NODES];
    private final int[] changeKinds = new int[MOST_NODES];
    private int changeCount;

    // The tree itself outlasts a crash, so of the log and of snapshots the numbers are enough.
    private int transactions;
    private int logStart;
    private int snapshotStart;
    private int placesLeft;

    public WatchTree() {
        for (int at = 0; at < TREE; at += RECORD) {
            tree[at + NODE_PATH] = NONE;
        }
        tree[NODE_PATH] = ROOT;
        tree[NODE_OWNER] = NONE;
        wrongAt = NONE;
        dropAllWatches();
    }

    // ---- sessions ----

    public int open(int timeout) {
        if (timeout < 1 || timeout > MOST_TIMEOUT) {
            return REFUSED;
        }
        int session = leastNotOpen();
        if (session == NONE) {
            return REFUSED;
        }
        if (isLogFull()) {
            return LOG_FULL;
        }
        timeouts[session] = timeout;
        deadlines[session] = time + timeout;
        finishTransaction();
        return session;
    }

    public int close(int session) {
        if (!isOpen(session)) {
            return REFUSED;
        }
        return closeOpen(session);
    }

    public boolean touch(int session) {
        if (!isOpen(session)) {
            return false;
        }
        deadlines[session] = time + timeouts[session];
        return true;
    }

    public int pass(int n) {
        if (n < 0 || n > MOST_PASS) {
            return REFUSED;
        }
        time += n;
        int closed = 0;
        for (int session = 0; session < SESSIONS; session++) {
            if (isOpen(session) && deadlines[session] <= time) {
                closeOpen(session);
                closed++;
            }
        }
        return closed;
    }

    public int left(int session) {
        if (!isOpen(session)) {
            return REFUSED;
        }
        return deadlines[session] - time;
    }

    private boolean isOpen(int session) {
        return session >= 0 && session < SESSIONS && timeouts[session] != 0;
    }

    private int leastNotOpen() {
        for (int session = 0; session < SESSIONS; session++) {
            if (timeouts[session] == 0) {
                return session;
            }
        }
        return NONE;
    }

    private int closeOpen(int session) {
        // Its watches go before its nodes do, so that it is told nothing of them.
        timeouts[session] = 0;
        eventCounts[session] = 0;
        dropWatchesOf(session);
        int gone = takeOwnedAway(session);
        finishTransaction();
        return gone;
    }

    private int takeOwnedAway(int session) {
        int gone = 0;
        for (int turn = 0; turn < MOST_NODES; turn++) {
            int at = findGreatestOwned(session);
            if (at == NONE) {
                break;
            }
            takeNodeAway(at);
            gone++;
        }
        return gone;
    }

    private int findGreatestOwned(int session) {
        // Free records keep an old owner, but their path is never above the root's.
        int found = NONE;
        int greatest = ROOT;
        for (int at = 0; at < TREE; at += RECORD) {
            if (tree[at + NODE_OWNER] == session && tree[at + NODE_PATH] > greatest) {
                greatest = tree[at + NODE_PATH];
                found = at;
            }
        }
        return found;
    }

    // ---- single requests ----

    public int create(int session, int path, int data, int flags) {
        if (!areFlags(flags)) {
            return REFUSED;
        }
        return single(session, KIND_CREATE, path, data, flags);
    }

    public int set(int session, int path, int data, int version) {
        return single(session, KIND_SET, path, data, version);
    }

    public int remove(int session, int path, int version) {
        return single(session, KIND_REMOVE, path, 0, version);
    }

    private int single(int session, int kind, int path, int a, int b) {
        if (!isOpen(session)) {
            return REFUSED;
        }
        if (isLogFull()) {
            return LOG_FULL;
        }
        int answer = perform(session, kind, path, a, b);
        if (answer >= 0) {
            finishTransaction();
        }
        return answer;
    }

    /** What the request answers (0 or more), or what is wrong with it (less than 0). */
    private int perform(int session, int kind, int path, int a, int b) {
        switch (kind) {
            case KIND_CREATE:
                return performCreate(session, path, a, b);
            case KIND_SET:
                return performSet(path, a, b);
            case KIND_REMOVE:
                return performRemove(path, b);
            default:
                return findWithVersion(path, b);
        }
    }

    private int performCreate(int session, int path, int data, int flags) {
        if (path == ROOT || !isPath(path)) {
            return NO_PATH;
        }
        int parentPath = path / BASE;
        int parent = find(parentPath);
        if (parent == NONE) {
            return NO_NODE;
        }
        if (tree[parent + NODE_OWNER] != NONE) {
            return CHILDLESS;
        }
        int number = tree[parent + NODE_CHILD_VERSION] % NAMES;
        int madePath = (flags & NUMBERED) != 0 ? parentPath * BASE + number + 1 : path;
        if (find(madePath) != NONE) {
            return EXISTS;
        }
        int made = findFree();
        if (made == NONE) {
            return FULL;
        }
        int owner = (flags & OWNED) != 0 ? session : NONE;
        writeNewNode(made, madePath, data, owner);
        tree[parent + NODE_CHILD_VERSION]++;
        noteChange(MADE, madePath);
        return madePath;
    }

    private void writeNewNode(int at, int path, int data, int owner) {
        int transaction = transactions + 1;
        tree[at + NODE_DATA] = data;
        tree[at + NODE_VERSION] = 0;
        tree[at + NODE_CHILD_VERSION] = 0;
        tree[at + NODE_CREATED] = transaction;
        tree[at + NODE_SET] = transaction;
        tree[at + NODE_OWNER] = owner;
        tree[at + NODE_PATH] = path;
    }

    private int performSet(int path, int data, int version) {
        int at = findWithVersion(path, version);
        if (at < 0) {
            return at;
        }
        tree[at + NODE_DATA] = data;
        tree[at + NODE_VERSION]++;
        tree[at + NODE_SET] = transactions + 1;
        noteChange(HAS_BEEN_SET, path);
        return tree[at + NODE_VERSION];
    }

    private int performRemove(int path, int version) {
        if (path == ROOT) {
            return NO_PATH;
        }
        int at = findWithVersion(path, version);
        if (at < 0) {
            return at;
        }
        if (countChildren(path) != 0) {
            return CHILDREN;
        }
        return takeNodeAway(at);
    }

    /** Answers the parent's child version then. */
    private int takeNodeAway(int at) {
        int path = tree[at + NODE_PATH];
        tree[at + NODE_PATH] = NONE;
        noteChange(GONE, path);
        int parent = find(path / BASE);
        if (parent == NONE) {
            return NO_NODE;
        }
        tree[parent + NODE_CHILD_VERSION]++;
        return tree[parent + NODE_CHILD_VERSION];
    }

    private static boolean areFlags(int flags) {
        return flags >= 0 && flags <= MOST_FLAGS;
    }

    // ---- multi requests ----

    public int part(int kind, int path, int a, int b) {
        if (partCount < 0 || partCount >= MOST_PARTS) {
            return REFUSED;
        }
        if (kind < KIND_CREATE || kind > KIND_CHECK) {
            return REFUSED;
        }
        if (kind == KIND_CREATE && !areFlags(b)) {
            return REFUSED;
        }
        partKinds[partCount] = kind;
        partPaths[partCount] = path;
        partAs[partCount] = a;
        partBs[partCount] = b;
        partCount++;
        return partCount;
    }

    public int multi(int session) {
        int count = partCount;
        partCount = 0;
        wrongAt = NONE;
        if (!isOpen(session) || count == 0) {
            return REFUSED;
        }
        if (isLogFull()) {
            return LOG_FULL;
        }
        copyTree(tree, treeBefore);
        for (int i = 0; i < count && i < MOST_PARTS; i++) {
            int answer = perform(session, partKinds[i], partPaths[i], partAs[i], partBs[i]);
            if (answer < 0) {
                wrongAt = i;
                copyTree(treeBefore, tree);
                changeCount = 0;
                return answer;
            }
        }
        finishTransaction();
        return transactions;
    }

    public int wrongPart() {
        return wrongAt;
    }

    private static void copyTree(int[] from, int[] to) {
        for (int i = 0; i < TREE; i++) {
            to[i] = from[i];
        }
    }

    // ---- transactions and what they tell ----

    private void noteChange(int kind, int path) {
        if (changeCount >= 0 && changeCount < MOST_NODES) {
            changeKinds[changeCount] = kind;
            changePaths[changeCount] = path;
            changeCount++;
        }
    }

    private void finishTransaction() {
        transactions++;
        for (int i = 0; i < changeCount && i < MOST_NODES; i++) {
            tellChange(changeKinds[i], changePaths[i]);
        }
        changeCount = 0;
    }

    private void tellChange(int kind, int path) {
        if (kind == HAS_BEEN_SET) {
            tell(HAS_BEEN_SET, path, TOLD_OF_SET);
            return;
        }
        tell(kind, path, kind == MADE ? TOLD_OF_MADE : TOLD_OF_GONE);
        tell(CHILDREN_CHANGED, path / BASE, TOLD_OF_CHILDREN);
    }

    private void tell(int kind, int path, int watchKindBits) {
        int event = path + EVENT_UNIT * kind;
        for (int session = 0; session < SESSIONS; session++) {
            boolean told = takeWatchesAway(session, path, watchKindBits);
            int count = eventCounts[session];
            if (told && count >= 0 && count < MOST_EVENTS) {
                events[session * MOST_EVENTS + count] = event;
                eventCounts[session] = count + 1;
            }
        }
    }

    // ---- watches and events ----

    public int watch(int session, int kind, int path) {
        if (!isOpen(session) || kind < 0 || kind > WATCH_THERE) {
            return REFUSED;
        }
        if (!isPath(path)) {
            return NO_PATH;
        }
        if (kind != WATCH_THERE && find(path) == NONE) {
            return NO_NODE;
        }
        if (hasWatch(session, kind, path)) {
            return 0;
        }
        int free = findFreeWatch();
        if (free == NONE) {
            return FULL;
        }
        watchSessions[free] = session;
        watchKinds[free] = kind;
        watchPaths[free] = path;
        return 1;
    }

    public int event(int session) {
        if (!isOpen(session) || eventCounts[session] == 0) {
            return REFUSED;
        }
        int first = session * MOST_EVENTS;
        int answer = events[first];
        for (int i = 1; i < MOST_EVENTS; i++) {
            events[first + i - 1] = events[first + i];
        }
        eventCounts[session]--;
        return answer;
    }

    public int watches() {
        int count = 0;
        for (int i = 0; i < MOST_WATCHES; i++) {
            if (watchSessions[i] != NONE) {
                count++;
            }
        }
        return count;
    }

    private boolean hasWatch(int session, int kind, int path) {
        for (int i = 0; i < MOST_WATCHES; i++) {
            if (watchSessions[i] == session && watchKinds[i] == kind && watchPaths[i] == path) {
                return true;
            }
        }
        return false;
    }

    private int findFreeWatch() {
        for (int i = 0; i < MOST_WATCHES; i++) {
            if (watchSessions[i] == NONE) {
                return i;
            }
        }
        return NONE;
    }

    /** Whether the session had a watch of one of these kinds on the path. */
    private boolean takeWatchesAway(int session, int path, int kindBits) {
        boolean had = false;
        for (int i = 0; i < MOST_WATCHES; i++) {
            boolean tells = (kindBits >> watchKinds[i] & 1) != 0;
            if (tells && watchSessions[i] == session && watchPaths[i] == path) {
                watchSessions[i] = NONE;
                had = true;
            }
        }
        return had;
    }

    private void dropWatchesOf(int session) {
        for (int i = 0; i < MOST_WATCHES; i++) {
            if (watchSessions[i] == session) {
                watchSessions[i] = NONE;
            }
        }
    }

    private void dropAllWatches() {
        for (int i = 0; i < MOST_WATCHES; i++) {
            watchSessions[i] = NONE;
        }
    }

    // ---- looking at the tree ----

    public long node(int path, int what) {
        int at = find(path);
        if (at == NONE) {
            return NOTHING;
        }
        if (what == WHAT_CHILDREN) {
            return countChildren(path);
        }
        if (what < NODE_DATA || what > NODE_OWNER) {
            return NOTHING;
        }
        return tree[at + what];
    }

    public int child(int path, int k) {
        if (k < 0 || find(path) == NONE) {
            return REFUSED;
        }
        int before = 0;
        for (int name = 0; name < NAMES; name++) {
            int childPath = path * BASE + name + 1;
            if (find(childPath) != NONE) {
                if (before == k) {
                    return childPath;
                }
                before++;
            }
        }
        return REFUSED;
    }

    public int latest() {
        return transactions;
    }

    public int state() {
        int openBits = 0;
        for (int session = 0; session < SESSIONS; session++) {
            if (isOpen(session)) {
                openBits |= 1 << session;
            }
        }
        return openBits + 16 * countNodes();
    }

    private static boolean isPath(int path) {
        if (path < ROOT || path > GREATEST_PATH) {
            return false;
        }
        int rest = path;
        for (int i = 0; i < MOST_NAMES && rest != 0; i++) {
            if (rest % BASE == 0) {
                return false;
            }
            rest /= BASE;
        }
        return true;
    }

    private int find(int path) {
        // Free records bear the path NONE: no caller may find one of them as a node.
        if (path < ROOT) {
            return NONE;
        }
        for (int at = 0; at < TREE; at += RECORD) {
            if (tree[at + NODE_PATH] == path) {
                return at;
            }
        }
        return NONE;
    }

    private int findFree() {
        for (int at = 0; at < TREE; at += RECORD) {
            if (tree[at + NODE_PATH] == NONE) {
                return at;
            }
        }
        return NONE;
    }

    /** Where the node is (0 or more), or what is wrong with a request for it (less than 0). */
    private int findWithVersion(int path, int version) {
        if (!isPath(path)) {
            return NO_PATH;
        }
        int at = find(path);
        if (at == NONE) {
            return NO_NODE;
        }
        if (version != ANY_VERSION && version != tree[at + NODE_VERSION]) {
            return VERSION;
        }
        return at;
    }

    private int countChildren(int path) {
        int count = 0;
        for (int at = 0; at < TREE; at += RECORD) {
            int other = tree[at + NODE_PATH];
            if (other > ROOT && other / BASE == path) {
                count++;
            }
        }
        return count;
    }

    private int countNodes() {
        int count = 0;
        for (int at = 0; at < TREE; at += RECORD) {
            if (tree[at + NODE_PATH] > ROOT) {
                count++;
            }
        }
        return count;
    }

    // ---- the log, snapshots and a crash ----

    public int save(int n) {
        if (n < 1 || n > PLACES) {
            return REFUSED;
        }
        if (placesLeft == 0) {
            placesLeft = PLACES;
            snapshotStart = transactions;
        }
        placesLeft = n < placesLeft ? placesLeft - n : 0;
        if (placesLeft == 0) {
            logStart = snapshotStart;
        }
        return placesLeft;
    }

    public int logged() {
        return transactions - logStart;
    }

    public int crash() {
        for (int session = 0; session < SESSIONS; session++) {
            eventCounts[session] = 0;
            deadlines[session] = time + timeouts[session];
        }
        dropAllWatches();
        partCount = 0;
        placesLeft = 0;
        return transactions - logStart;
    }

    private boolean isLogFull() {
        return transactions - logStart >= LOG_LIMIT;
    }
}
