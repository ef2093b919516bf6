import java.util.Map;
import java.util.Random;
import java.util.TreeMap;

/**
 * All promises: long runs of calls, always the same ones, answered as the model answers them.
 * Each ends with a look at the whole state, and takes at most 512 calls with it.
 */
public final class ModelTest {
    private static final int RUNS = 8000;
    private static final int MOST_CALLS = 512;
    /** 11 numbers, 21 nodes with their 7 numbers and children, 4 sessions with 8 events: so many a look takes. */
    private static final int LOOK = 11 + 21 * 7 + 20 + 21 + 4 * 9 + 1;
    private static final int[] ENDS = {Integer.MIN_VALUE, Integer.MIN_VALUE + 1, -2, -1, 4, 5, 21, 25, 31, 100,
        Integer.MAX_VALUE - 1, Integer.MAX_VALUE};

    /**
     * How often a run makes each call, by the order of oneCall(): open, close, touch, pass, create, set, remove,
     * part, multi, watch, event, save, crash, logged. The first kind of run mixes them; the others go for a full
     * tree, a full log, and many watches and events.
     */
    private static final int[][] WEIGHTS = {
        {8, 2, 6, 3, 16, 6, 5, 12, 6, 16, 9, 9, 1, 1},
        {6, 0, 6, 1, 50, 4, 1, 16, 4, 2, 2, 16, 1, 1},
        {8, 2, 6, 2, 30, 20, 8, 12, 6, 4, 4, 1, 1, 1},
        {6, 1, 6, 1, 10, 14, 3, 4, 2, 40, 2, 12, 0, 1}};
    /** What the runs must come upon, each so often at least, so that they say something of it. */
    private static final int OFTEN = 100;
    private static final String[] LIMITS = {"open -1", "open -9", "create -2", "create -3", "create -4", "create -5",
        "create -6", "create -9", "set -3", "set -7", "set -9", "remove -3", "remove -7", "remove -8", "remove -9",
        "part -1", "multi -1", "multi -2", "multi -3", "multi -4", "multi -5", "multi -6", "multi -7", "multi -8",
        "multi -9", "watch -1", "watch -2", "watch -3", "watch -6", "event -1", "save -1", "pass -1", "close -1"};
    private static final Map<String, Integer> met = new TreeMap<>();

    private final Random random;
    /** How many names a run uses at each place: few make meetings, many make a full tree. */
    private final int names;
    private final int[] weights;
    private final int length;
    private final WatchTree x = new WatchTree();
    private final Model m = new Model();
    private int calls;

    private ModelTest(int seed) {
        random = new Random(seed);
        names = 2 + seed % 5;
        weights = WEIGHTS[seed / 5 % WEIGHTS.length];
        length = below(4) == 0 ? 20 + below(200) : MOST_CALLS - LOOK - 2;
    }

    public static void main(String[] args) {
        Due all = new Due();
        for (int seed = 0; seed < RUNS; seed++) {
            ModelTest run = new ModelTest(seed);
            String difference = run.firstDifference();
            if (difference != null) {
                System.out.println("run " + seed + ": " + difference);
            }
            all.is(0, "run " + seed + " agrees", difference == null, true);
        }
        for (String limit : LIMITS) {
            int times = met.getOrDefault(limit, 0);
            all.is(0, "the runs came upon " + limit + " " + times + " times, which is often", times >= OFTEN, true);
        }
        all.end();
    }

    private String firstDifference() {
        String difference = null;
        while (calls < length && difference == null) {
            difference = oneCall();
        }
        difference = difference != null ? difference : wholeState();
        return difference != null || calls <= MOST_CALLS ? difference : calls + " calls are too many";
    }

    private int below(int n) {
        return random.nextInt(n);
    }

    private int end() {
        return ENDS[below(ENDS.length)];
    }

    private int session() {
        return below(25) == 0 ? end() : below(4);
    }

    private int path() {
        int kind = below(40);
        if (kind == 0) {
            int[] none = Make.noPaths();
            return none[below(none.length)];
        }
        if (kind < 4) {
            return 0;
        }
        int depth = 1 + below(3);
        int path = 0;
        for (int i = 0; i < depth; i++) {
            path = path * 101 + (below(50) == 0 ? 100 : 1 + below(names));
        }
        return path;
    }

    private int version() {
        int kind = below(10);
        return kind < 6 ? -1 : kind < 9 ? below(3) : end();
    }

    private int flags() {
        return below(25) == 0 ? end() : below(4) == 0 ? below(4) : below(3) == 0 ? 2 : 0;
    }

    private String compare(String call, long got, long want) {
        calls++;
        if (want < 0) {
            met.merge(call.substring(0, call.indexOf('(')) + " " + want, 1, Integer::sum);
        }
        return got == want ? null : call + " answered " + got + ", the model " + want;
    }

    private int choice() {
        int sum = 0;
        for (int weight : weights) {
            sum += weight;
        }
        int rest = below(sum);
        int choice = 0;
        while (rest >= weights[choice]) {
            rest -= weights[choice];
            choice++;
        }
        return choice;
    }

    private String oneCall() {
        switch (choice()) {
            case 0:
                int timeout = below(10) == 0 ? end() : below(5) == 0 ? 1 + below(20) : 8 + below(13);
                return compare("open(" + timeout + ")", x.open(timeout), m.open(timeout));
            case 1:
                int closed = session();
                return compare("close(" + closed + ")", x.close(closed), m.close(closed));
            case 2:
                int touched = session();
                return compare("touch(" + touched + ")", x.touch(touched) ? 1 : 0, m.touch(touched) ? 1 : 0);
            case 3:
                int passed = below(10) == 0 ? end() : below(12) == 0 ? below(31) : below(5);
                return compare("pass(" + passed + ")", x.pass(passed), m.pass(passed));
            case 4:
                return oneCreate();
            case 5:
                return oneSet();
            case 6:
                return oneRemove();
            case 7:
                return onePart();
            case 8:
                int by = session();
                String difference = compare("multi(" + by + ")", x.multi(by), m.multi(by));
                return difference != null ? difference : compare("wrongPart()", x.wrongPart(), m.wrongPart());
            case 9:
                return oneWatch();
            case 10:
                int told = session();
                return compare("event(" + told + ")", x.event(told), m.event(told));
            case 11:
                int n = below(10) == 0 ? end() : 1 + below(24);
                return compare("save(" + n + ")", x.save(n), m.save(n));
            case 12:
                return compare("crash()", x.crash(), m.crash());
            default:
                return compare("logged()", x.logged(), m.logged());
        }
    }

    private String oneCreate() {
        int s = session();
        int p = path();
        int data = random.nextInt();
        int f = flags();
        return compare("create(" + s + ", " + p + ", " + data + ", " + f + ")", x.create(s, p, data, f), m.create(s, p, data, f));
    }

    private String oneSet() {
        int s = session();
        int p = path();
        int data = random.nextInt();
        int v = version();
        return compare("set(" + s + ", " + p + ", " + data + ", " + v + ")", x.set(s, p, data, v), m.set(s, p, data, v));
    }

    private String oneRemove() {
        int s = session();
        int p = path();
        int v = version();
        return compare("remove(" + s + ", " + p + ", " + v + ")", x.remove(s, p, v), m.remove(s, p, v));
    }

    private String onePart() {
        int kind = below(20) == 0 ? end() : below(4);
        int p = path();
        int a = random.nextInt();
        int b = kind == 0 ? flags() : version();
        return compare("part(" + kind + ", " + p + ", " + a + ", " + b + ")", x.part(kind, p, a, b), m.part(kind, p, a, b));
    }

    private String oneWatch() {
        int s = session();
        int kind = below(20) == 0 ? end() : below(3);
        int p = path();
        return compare("watch(" + s + ", " + kind + ", " + p + ")", x.watch(s, kind, p), m.watch(s, kind, p));
    }

    private String wholeState() {
        String d = compare("state()", x.state(), m.state());
        d = d != null ? d : compare("latest()", x.latest(), m.latest());
        d = d != null ? d : compare("logged()", x.logged(), m.logged());
        d = d != null ? d : compare("watches()", x.watches(), m.watches());
        d = d != null ? d : compare("wrongPart()", x.wrongPart(), m.wrongPart());
        for (int s = -1; s < 5 && d == null; s++) {
            d = compare("left(" + s + ")", x.left(s), m.left(s));
        }
        return d != null ? d : wholeTree();
    }

    private String wholeTree() {
        String d = null;
        int[] paths = new int[21];
        int count = 1;
        for (int i = 0; i < count && d == null; i++) {
            for (int what = 0; what < 7 && d == null; what++) {
                d = compare("node(" + paths[i] + ", " + what + ")", x.node(paths[i], what), m.node(paths[i], what));
            }
            int child = 0;
            for (int k = 0; child >= 0 && d == null; k++) {
                child = m.child(paths[i], k);
                d = compare("child(" + paths[i] + ", " + k + ")", x.child(paths[i], k), child);
                if (child >= 0) {
                    paths[count++] = child;
                }
            }
        }
        return d != null ? d : allEvents();
    }

    private String allEvents() {
        String d = null;
        for (int s = 0; s < 4 && d == null; s++) {
            int event = 0;
            while (event >= 0 && d == null) {
                event = m.event(s);
                d = compare("event(" + s + ")", x.event(s), event);
            }
        }
        return d != null ? d : compare("save(1)", x.save(1), m.save(1));
    }
}
