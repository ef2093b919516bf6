import java.util.Random;

/** Rules 7 and 11 of LANGUAGE.md: no call throws, whatever its arguments, and the same calls answer the same. */
public final class AnythingTest {
    private static final int[] EDGES = {Integer.MIN_VALUE, Integer.MIN_VALUE + 1, -1030301, -102, -101, -2, -1, 0, 1, 2,
        3, 4, 5, 6, 7, 8, 20, 21, 24, 25, 30, 31, 100, 101, 102, 10201, 10303, 1030300, 1030301, 21262214, 21262215,
        Integer.MAX_VALUE - 1, Integer.MAX_VALUE};

    public static void main(String[] args) {
        Due due = new Due();
        for (int seed = 0; seed < 200; seed++) {
            long first = run(seed);
            due.is(0, "run " + seed + " once more", run(seed), first);
        }
        due.end();
    }

    private static long run(int seed) {
        Random random = new Random(seed);
        WatchTree x = new WatchTree();
        long sum = 0;
        for (int call = 0; call < 5000; call++) {
            sum = sum * 31 + any(x, random);
        }
        return sum;
    }

    private static int value(Random random) {
        return random.nextInt(3) == 0 ? EDGES[random.nextInt(EDGES.length)] : random.nextInt(5) - 1;
    }

    private static long any(WatchTree x, Random random) {
        int a = value(random);
        int b = value(random);
        int c = value(random);
        int d = value(random);
        switch (random.nextInt(26)) {
            case 0: return x.close(a);
            case 1: return x.touch(a) ? 1 : 0;
            case 2: return x.pass(a);
            case 3: case 4: case 5: return x.create(a, b, c, d);
            case 6: return x.set(a, b, c, d);
            case 7: return x.remove(a, b, c);
            case 8: case 9: case 10: return x.part(a, b, c, d);
            case 11: return x.multi(a);
            case 12: return x.wrongPart();
            case 13: case 14: return x.watch(a, b, c);
            case 15: return x.event(a);
            case 16: return x.watches();
            case 17: return x.node(a, b);
            case 18: return x.child(a, b);
            case 19: return x.latest();
            case 20: return x.state();
            case 21: return x.left(a);
            case 22: return x.save(a);
            case 23: return x.logged();
            case 24: return random.nextInt(10) == 0 ? x.crash() : x.save(24);
            default: return x.open(a);
        }
    }
}
