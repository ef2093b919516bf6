import java.util.ArrayDeque;
import java.util.ArrayList;
import java.util.Deque;
import java.util.List;
import java.util.Map;
import java.util.TreeMap;
import java.util.TreeSet;
import java.util.function.Consumer;

/**
 * The document once more, written with the Java library and in another way: a crash here really
 * makes the tree and the sessions anew from the latest complete snapshot and the log.
 */
final class Model {
    private static final int SESSIONS = 4;

    private static final class Node {
        int data;
        int version;
        int childVersion;
        int created;
        int set;
        int owner = -1;

        Node copy() {
            Node n = new Node();
            n.data = data;
            n.version = version;
            n.childVersion = childVersion;
            n.created = created;
            n.set = set;
            n.owner = owner;
            return n;
        }
    }

    /** What the log and the snapshots keep. */
    private static final class Kept {
        final TreeMap<Integer, Node> nodes = new TreeMap<>();
        final TreeMap<Integer, Integer> timeouts = new TreeMap<>();
        int latest;

        Kept copy() {
            Kept k = new Kept();
            for (Map.Entry<Integer, Node> e : nodes.entrySet()) {
                k.nodes.put(e.getKey(), e.getValue().copy());
            }
            k.timeouts.putAll(timeouts);
            k.latest = latest;
            return k;
        }
    }

    private record Request(int kind, int path, int a, int b) {
    }

    private record Change(int what, int path) {
    }

    private record Watch(int session, int kind, int path) {
    }

    private Kept kept = new Kept();
    private Kept snapshot;
    private Kept begun;
    private int placesTaken;
    private final List<Consumer<Kept>> log = new ArrayList<>();
    private int logAtBeginning;

    private int time;
    private final TreeMap<Integer, Integer> deadlines = new TreeMap<>();
    private final List<Watch> watchList = new ArrayList<>();
    private final List<Deque<Integer>> events = new ArrayList<>();
    private List<Request> parts = new ArrayList<>();
    private int wrongPart = -1;

    Model() {
        kept.nodes.put(0, new Node());
        snapshot = kept.copy();
        for (int i = 0; i < SESSIONS; i++) {
            events.add(new ArrayDeque<>());
        }
    }

    private static List<Integer> names(int path) {
        List<Integer> names = new ArrayList<>();
        for (int rest = path; rest > 0; rest /= 101) {
            names.add(0, rest % 101 - 1);
        }
        return names;
    }

    private static boolean isPath(int path) {
        return path >= 0 && names(path).size() <= 3 && !names(path).contains(-1);
    }

    private static List<Integer> children(Kept k, int path) {
        return new ArrayList<>(k.nodes.subMap(path * 101 + 1, path * 101 + 101).keySet());
    }

    private boolean isOpen(int session) {
        return kept.timeouts.containsKey(session);
    }

    /** Does one request on the tree; less than 0 is what is wrong. */
    private static int perform(Kept k, int session, Request r, List<Change> changes) {
        if (!isPath(r.path) || r.path == 0 && (r.kind == 0 || r.kind == 2)) {
            return WatchTree.NO_PATH;
        }
        Node parent = r.path == 0 ? null : k.nodes.get(r.path / 101);
        if (r.kind == 0) {
            if (parent == null) {
                return WatchTree.NO_NODE;
            }
            if (parent.owner >= 0) {
                return WatchTree.CHILDLESS;
            }
            int path = r.b >= 2 ? r.path / 101 * 101 + 1 + parent.childVersion % 100 : r.path;
            if (k.nodes.containsKey(path)) {
                return WatchTree.EXISTS;
            }
            if (k.nodes.size() == 21) {
                return WatchTree.FULL;
            }
            Node n = new Node();
            n.data = r.a;
            n.created = k.latest + 1;
            n.set = k.latest + 1;
            n.owner = r.b == 1 || r.b == 3 ? session : -1;
            k.nodes.put(path, n);
            parent.childVersion++;
            changes.add(new Change(1, path));
            return path;
        }
        Node n = k.nodes.get(r.path);
        if (n == null) {
            return WatchTree.NO_NODE;
        }
        if (r.b != -1 && r.b != n.version) {
            return WatchTree.VERSION;
        }
        if (r.kind == 1) {
            n.data = r.a;
            n.set = k.latest + 1;
            changes.add(new Change(3, r.path));
            return ++n.version;
        }
        if (r.kind == 2) {
            if (!children(k, r.path).isEmpty()) {
                return WatchTree.CHILDREN;
            }
            k.nodes.remove(r.path);
            changes.add(new Change(2, r.path));
            return ++parent.childVersion;
        }
        return 0;
    }

    private static void closing(Kept k, int session, List<Change> changes) {
        for (int path : new ArrayList<>(k.nodes.descendingKeySet())) {
            if (k.nodes.get(path).owner == session) {
                k.nodes.remove(path);
                k.nodes.get(path / 101).childVersion++;
                changes.add(new Change(2, path));
            }
        }
        k.timeouts.remove(session);
        k.latest++;
    }

    private void tell(List<Change> changes) {
        for (Change c : changes) {
            tell(c.path, c.what, c.what == 1 ? "2" : c.what == 2 ? "012" : "02");
            if (c.what != 3) {
                tell(c.path / 101, 4, "1");
            }
        }
    }

    private void tell(int path, int what, String kinds) {
        TreeSet<Integer> told = new TreeSet<>();
        watchList.removeIf(w -> {
            boolean tells = w.path == path && kinds.contains("" + w.kind);
            return tells && (told.add(w.session) || true);
        });
        for (int session : told) {
            if (events.get(session).size() < 8) {
                events.get(session).add(path + 2097152 * what);
            }
        }
    }

    int open(int timeout) {
        if (timeout < 1 || timeout > 20 || kept.timeouts.size() == SESSIONS) {
            return WatchTree.REFUSED;
        }
        if (log.size() >= 40) {
            return WatchTree.LOG_FULL;
        }
        int session = 0;
        while (isOpen(session)) {
            session++;
        }
        int opened = session;
        Consumer<Kept> entry = k -> {
            k.timeouts.put(opened, timeout);
            k.latest++;
        };
        entry.accept(kept);
        log.add(entry);
        deadlines.put(session, time + timeout);
        return session;
    }

    int close(int session) {
        if (!isOpen(session)) {
            return WatchTree.REFUSED;
        }
        List<Change> changes = new ArrayList<>();
        closing(kept, session, changes);
        log.add(k -> closing(k, session, new ArrayList<>()));
        watchList.removeIf(w -> w.session == session);
        events.get(session).clear();
        tell(changes);
        return changes.size();
    }

    boolean touch(int session) {
        if (isOpen(session)) {
            deadlines.put(session, time + kept.timeouts.get(session));
        }
        return isOpen(session);
    }

    int pass(int n) {
        if (n < 0 || n > 30) {
            return WatchTree.REFUSED;
        }
        time += n;
        int closed = 0;
        for (int session : new ArrayList<>(kept.timeouts.keySet())) {
            if (deadlines.get(session) <= time) {
                close(session);
                closed++;
            }
        }
        return closed;
    }

    int create(int session, int path, int data, int flags) {
        return flags < 0 || flags > 3 ? WatchTree.REFUSED : single(session, new Request(0, path, data, flags));
    }

    int set(int session, int path, int data, int version) {
        return single(session, new Request(1, path, data, version));
    }

    int remove(int session, int path, int version) {
        return single(session, new Request(2, path, 0, version));
    }

    private int single(int session, Request r) {
        if (!isOpen(session)) {
            return WatchTree.REFUSED;
        }
        int[] answers = requests(session, List.of(r));
        return answers[1];
    }

    /** The number of the part that was wrong or -1, and the last part's answer or what was wrong. */
    private int[] requests(int session, List<Request> all) {
        if (log.size() >= 40) {
            return new int[] {-1, WatchTree.LOG_FULL};
        }
        Kept tried = kept.copy();
        List<Change> changes = new ArrayList<>();
        int answer = 0;
        for (int i = 0; i < all.size(); i++) {
            answer = perform(tried, session, all.get(i), changes);
            if (answer < 0) {
                return new int[] {i, answer};
            }
        }
        tried.latest++;
        kept = tried;
        log.add(k -> {
            for (Request r : all) {
                perform(k, session, r, new ArrayList<>());
            }
            k.latest++;
        });
        tell(changes);
        return new int[] {-1, answer};
    }

    int part(int kind, int path, int a, int b) {
        if (parts.size() == 6 || kind < 0 || kind > 3 || kind == 0 && (b < 0 || b > 3)) {
            return WatchTree.REFUSED;
        }
        parts.add(new Request(kind, path, a, b));
        return parts.size();
    }

    int multi(int session) {
        List<Request> all = parts;
        parts = new ArrayList<>();
        wrongPart = -1;
        if (!isOpen(session) || all.isEmpty()) {
            return WatchTree.REFUSED;
        }
        int[] answers = requests(session, all);
        wrongPart = answers[0];
        return answers[1] < 0 ? answers[1] : kept.latest;
    }

    int wrongPart() {
        return wrongPart;
    }

    int watch(int session, int kind, int path) {
        if (!isOpen(session) || kind < 0 || kind > 2) {
            return WatchTree.REFUSED;
        }
        if (!isPath(path)) {
            return WatchTree.NO_PATH;
        }
        if (kind < 2 && !kept.nodes.containsKey(path)) {
            return WatchTree.NO_NODE;
        }
        Watch w = new Watch(session, kind, path);
        if (watchList.contains(w)) {
            return 0;
        }
        if (watchList.size() == 16) {
            return WatchTree.FULL;
        }
        watchList.add(w);
        return 1;
    }

    int event(int session) {
        return isOpen(session) && !events.get(session).isEmpty() ? events.get(session).remove() : WatchTree.REFUSED;
    }

    int watches() {
        return watchList.size();
    }

    long node(int path, int what) {
        Node n = kept.nodes.get(path);
        if (n == null || what < 0 || what > 6) {
            return WatchTree.NOTHING;
        }
        return new long[] {n.data, n.version, n.childVersion, n.created, n.set, n.owner,
            children(kept, path).size()}[what];
    }

    int child(int path, int k) {
        if (!kept.nodes.containsKey(path) || k < 0 || k >= children(kept, path).size()) {
            return WatchTree.REFUSED;
        }
        return children(kept, path).get(k);
    }

    int latest() {
        return kept.latest;
    }

    int state() {
        int state = 16 * (kept.nodes.size() - 1);
        for (int session : kept.timeouts.keySet()) {
            state += 1 << session;
        }
        return state;
    }

    int left(int session) {
        return isOpen(session) ? deadlines.get(session) - time : WatchTree.REFUSED;
    }

    int save(int n) {
        if (n < 1 || n > 24) {
            return WatchTree.REFUSED;
        }
        if (begun == null) {
            begun = kept.copy();
            logAtBeginning = log.size();
            placesTaken = 0;
        }
        placesTaken += n;
        if (placesTaken < 24) {
            return 24 - placesTaken;
        }
        snapshot = begun;
        begun = null;
        log.subList(0, logAtBeginning).clear();
        return 0;
    }

    int logged() {
        return log.size();
    }

    int crash() {
        kept = snapshot.copy();
        for (Consumer<Kept> entry : log) {
            entry.accept(kept);
        }
        begun = null;
        watchList.clear();
        parts = new ArrayList<>();
        deadlines.clear();
        for (int session = 0; session < SESSIONS; session++) {
            events.get(session).clear();
            touch(session);
        }
        return log.size();
    }
}
