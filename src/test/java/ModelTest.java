import java.util.Random;

/**
 * All promises: long runs of calls, always the same ones, answered as the model answers them.
 * With the looks at the whole state these are more calls than the 512 that are promised; the
 * program has no such end, so the looks may be as many as they are.
 */
public final class ModelTest {
    private static final int RUNS = 2000;
    private static final int CALLS = 512;
    private static final int[] NO_PATHS = {-1, 101, 202, 10201, 10202, 10301, 1030301,
        Integer.MIN_VALUE, Integer.MAX_VALUE};

    private final Random random;
    /** How many names a run uses at each place: few make meetings, many make a full tree. */
    private final int names;
    private final boolean savesOften;
    private final WatchTree x = new WatchTree();
    private final Model m = new Model();

    private ModelTest(int seed) {
        random = new Random(seed);
        names = 2 + seed % 5;
        savesOften = seed % 3 != 0;
    }

    public static void main(String[] args) {
        Due all = new Due();
        for (int seed = 0; seed < RUNS; seed++) {
            ModelTest run = new ModelTest(seed);
            String difference = run.firstDifference();
            if (difference != null) {
                System.out.println("run " + seed + ": " + difference);
            }
            all.is(0, "run " + seed + " agrees", difference == null, true);
        }
        all.end();
    }

    private String firstDifference() {
        String difference = null;
        for (int call = 0; call < CALLS && difference == null; call++) {
            difference = oneCall();
            if (difference == null && call % 16 == 0) {
                difference = wholeState();
            }
        }
        return difference;
    }

    private int below(int n) {
        return random.nextInt(n);
    }

    private int session() {
        return below(12) == 0 ? below(8) - 2 : below(4);
    }

    private int path() {
        int kind = below(40);
        if (kind == 0) {
            return NO_PATHS[below(NO_PATHS.length)];
        }
        if (kind < 4) {
            return 0;
        }
        int depth = 1 + below(3);
        int path = 0;
        for (int i = 0; i < depth; i++) {
            path = path * 101 + (below(50) == 0 ? 100 : 1 + below(names));
        }
        return path;
    }

    private int version() {
        int kind = below(10);
        return kind < 6 ? -1 : kind < 9 ? below(3) : -2 - below(3);
    }

    private int flags() {
        return below(20) == 0 ? below(12) - 4 : below(4) == 0 ? below(4) : below(3) == 0 ? 2 : 0;
    }

    private static String compare(String call, long got, long want) {
        return got == want ? null : call + " answered " + got + ", the model " + want;
    }

    private String oneCall() {
        int s = session();
        int p = path();
        int a = random.nextInt();
        int v = version();
        int choice = below(100);
        if (choice < 8) {
            int timeout = below(10) == 0 ? below(30) - 4 : 8 + below(13);
            return compare("open(" + timeout + ")", x.open(timeout), m.open(timeout));
        }
        if (choice < 10) {
            return compare("close(" + s + ")", x.close(s), m.close(s));
        }
        if (choice < 16) {
            return compare("touch(" + s + ")", x.touch(s) ? 1 : 0, m.touch(s) ? 1 : 0);
        }
        if (choice < 19) {
            int n = below(10) == 0 ? below(40) - 4 : below(5);
            return compare("pass(" + n + ")", x.pass(n), m.pass(n));
        }
        if (choice < 35) {
            int f = flags();
            return compare("create(" + s + ", " + p + ", " + a + ", " + f + ")", x.create(s, p, a, f), m.create(s, p, a, f));
        }
        if (choice < 41) {
            return compare("set(" + s + ", " + p + ", " + a + ", " + v + ")", x.set(s, p, a, v), m.set(s, p, a, v));
        }
        if (choice < 46) {
            return compare("remove(" + s + ", " + p + ", " + v + ")", x.remove(s, p, v), m.remove(s, p, v));
        }
        if (choice < 58) {
            int kind = below(15) == 0 ? below(8) - 2 : below(4);
            int b = kind == 0 ? flags() : v;
            return compare("part(" + kind + ", " + p + ", " + a + ", " + b + ")", x.part(kind, p, a, b), m.part(kind, p, a, b));
        }
        if (choice < 64) {
            String difference = compare("multi(" + s + ")", x.multi(s), m.multi(s));
            return difference != null ? difference : compare("wrongPart()", x.wrongPart(), m.wrongPart());
        }
        if (choice < 80) {
            int kind = below(15) == 0 ? below(8) - 2 : below(3);
            return compare("watch(" + s + ", " + kind + ", " + p + ")", x.watch(s, kind, p), m.watch(s, kind, p));
        }
        if (choice < 89) {
            return compare("event(" + s + ")", x.event(s), m.event(s));
        }
        if (choice < 98) {
            int n = below(10) == 0 ? below(40) - 4 : savesOften ? 1 + below(24) : 1;
            return compare("save(" + n + ")", x.save(n), m.save(n));
        }
        return below(3) == 0 ? compare("crash()", x.crash(), m.crash()) : compare("logged()", x.logged(), m.logged());
    }

    private String wholeState() {
        String d = compare("state()", x.state(), m.state());
        d = d != null ? d : compare("latest()", x.latest(), m.latest());
        d = d != null ? d : compare("logged()", x.logged(), m.logged());
        d = d != null ? d : compare("watches()", x.watches(), m.watches());
        d = d != null ? d : compare("wrongPart()", x.wrongPart(), m.wrongPart());
        for (int s = -1; s < 5 && d == null; s++) {
            d = compare("left(" + s + ")", x.left(s), m.left(s));
        }
        return d != null ? d : wholeTree();
    }

    private String wholeTree() {
        String d = null;
        int[] paths = new int[22];
        int count = 1;
        for (int i = 0; i < count && d == null; i++) {
            for (int what = -1; what < 8 && d == null; what++) {
                d = compare("node(" + paths[i] + ", " + what + ")", x.node(paths[i], what), m.node(paths[i], what));
            }
            for (int k = -1; k < 22 && d == null; k++) {
                int child = m.child(paths[i], k);
                d = compare("child(" + paths[i] + ", " + k + ")", x.child(paths[i], k), child);
                if (child > 0) {
                    paths[count++] = child;
                }
            }
        }
        int p = path();
        return d != null ? d : compare("node(" + p + ", 0)", x.node(p, 0), m.node(p, 0));
    }
}
