import java.lang.reflect.Field;
import java.lang.reflect.Modifier;
import java.util.Arrays;
import java.util.Random;

/** Rules 7 and 11 of LANGUAGE.md: no call throws or does not end, whatever its arguments and state, and the same calls answer the same. */
public final class AnythingTest {
    private static final int[] EDGES = {Integer.MIN_VALUE, Integer.MIN_VALUE + 1, -1030301, -102, -101, -2, -1, 0, 1, 2,
        3, 4, 5, 6, 7, 8, 20, 21, 24, 25, 30, 31, 100, 101, 102, 10201, 10303, 1030300, 1030301, 21262214, 21262215,
        Integer.MAX_VALUE - 1, Integer.MAX_VALUE};
    private static final int[] FEW = {Integer.MIN_VALUE, Integer.MIN_VALUE + 1, -101, -2, -1, 0, 1, 2, 3, 4, 50, 101,
        102, 1030300, 1030301, Integer.MAX_VALUE - 1, Integer.MAX_VALUE};
    private static final Due due = new Due();

    public static void main(String[] args) throws IllegalAccessException {
        anyRun();
        anyNumberInEachField();
        anyNumbersInAllFields();
        allEndsTogether();
        everyIntAlone();
        longAfterTheLastCall();
        due.end();
    }

    private static void anyRun() {
        due.says(0, "Rule 11: the same calls always give the same answers");
        for (int seed = 0; seed < 200; seed++) {
            long first = run(seed);
            due.is("run " + seed + " once more", run(seed), first);
        }
    }

    private static long run(int seed) {
        Random random = new Random(seed);
        WatchTree x = new WatchTree();
        long sum = 0;
        for (int call = 0; call < 5000; call++) {
            sum = sum * 31 + any(x, random);
        }
        return sum;
    }

    private static int value(Random random) {
        return random.nextInt(3) == 0 ? EDGES[random.nextInt(EDGES.length)] : random.nextInt(5) - 1;
    }

    private static long any(WatchTree x, Random random) {
        int a = value(random);
        int b = value(random);
        int c = value(random);
        int d = value(random);
        switch (random.nextInt(26)) {
            case 0: return x.close(a);
            case 1: return x.touch(a) ? 1 : 0;
            case 2: return x.pass(a);
            case 3: case 4: case 5: return x.create(a, b, c, d);
            case 6: return x.set(a, b, c, d);
            case 7: return x.remove(a, b, c);
            case 8: case 9: case 10: return x.part(a, b, c, d);
            case 11: return x.multi(a);
            case 12: return x.wrongPart();
            case 13: case 14: return x.watch(a, b, c);
            case 15: return x.event(a);
            case 16: return x.watches();
            case 17: return x.node(a, b);
            case 18: return x.child(a, b);
            case 19: return x.latest();
            case 20: return x.state();
            case 21: return x.left(a);
            case 22: return x.save(a);
            case 23: return x.logged();
            case 24: return random.nextInt(10) == 0 ? x.crash() : x.save(24);
            default: return x.open(a);
        }
    }

    /** Also a state that no calls lead to: then each index is looked at where it is used, not only known to fit. */
    private static void anyNumberInEachField() throws IllegalAccessException {
        due.says(0, "Rule 7: an index is looked at before it is used, a divisor before it divides");
        for (Field field : WatchTree.class.getDeclaredFields()) {
            if (Modifier.isStatic(field.getModifiers())) {
                continue;
            }
            for (Scene scene : Scene.values()) {
                for (int number : EDGES) {
                    Random random = new Random(number);
                    WatchTree x = scene.make();
                    for (int call = 0; call < 40; call++) {
                        fill(x, field, number);
                        ends(field.getName() + " = " + number + " in " + scene, x, random);
                    }
                }
            }
        }
    }

    private static void anyNumbersInAllFields() throws IllegalAccessException {
        due.says(0, "Rule 7: No call may ever throw or fail to end, for any arguments in any state");
        for (int seed = 0; seed < 20_000; seed++) {
            Random random = new Random(seed);
            WatchTree x = Scene.values()[seed % 4].make();
            for (Field field : WatchTree.class.getDeclaredFields()) {
                if (!Modifier.isStatic(field.getModifiers()) && random.nextBoolean()) {
                    fillAnyhow(x, field, random);
                }
            }
            for (int call = 0; call < 40; call++) {
                ends("state " + seed, x, random);
            }
        }
    }

    private static void ends(String state, WatchTree x, Random random) {
        boolean ended = false;
        try {
            any(x, random);
            ended = true;
        } catch (RuntimeException e) {
            // The machine leaves the trace out once it has thrown the same one often.
            StackTraceElement[] trace = e.getStackTrace();
            System.out.println(trace.length == 0 ? e : e + " at " + trace[0]);
        }
        due.is("a call ends, " + state, ended, true);
    }

    private static void fill(WatchTree x, Field field, int number) throws IllegalAccessException {
        field.setAccessible(true);
        if (field.get(x) instanceof int[] numbers) {
            Arrays.fill(numbers, number);
        } else {
            field.setInt(x, number);
        }
    }

    private static void fillAnyhow(WatchTree x, Field field, Random random) throws IllegalAccessException {
        field.setAccessible(true);
        if (field.get(x) instanceof int[] numbers) {
            Arrays.setAll(numbers, i -> value(random));
        } else {
            field.setInt(x, value(random));
        }
    }

    /** Every call with every mixture of a few ends, in every scene. */
    private static void allEndsTogether() {
        due.says(0, "Rule 7: No call may ever throw or fail to end, for any arguments in any state");
        for (Scene scene : Scene.values()) {
            for (int a : FEW) {
                for (int b : FEW) {
                    endsOfFour(scene.make(), a, b);
                    endsOfTwo(scene.make(), a, b);
                }
                endsOfOne(scene.make(), a);
            }
            due.is("all calls in " + scene + " have ended", true, true);
        }
    }

    private static void endsOfFour(WatchTree x, int a, int b) {
        for (int c : FEW) {
            for (int d : FEW) {
                x.create(a, b, c, d);
                x.set(a, b, c, d);
                x.part(a, b, c, d);
            }
            x.multi(a);
            x.remove(a, b, c);
            x.watch(a, b, c);
        }
    }

    private static void endsOfTwo(WatchTree x, int a, int b) {
        x.node(a, b);
        x.child(a, b);
        x.watch(0, a, b);
        x.watch(a, 2, b);
        x.part(0, a, 0, b & 3);
        x.part(2, a, 0, b);
        x.multi(0);
    }

    private static void endsOfOne(WatchTree x, int a) {
        x.left(a);
        x.event(a);
        x.touch(a);
        x.save(a);
        x.multi(a);
        x.open(a);
        x.pass(a);
        x.close(a);
        x.crash();
    }

    /** Some ten million ints, spread over all of them, for each argument that is looked at by its size. */
    private static void everyIntAlone() {
        due.says(0, "Rule 7: No call may ever throw or fail to end, for any arguments in any state");
        WatchTree x = Scene.LOG_FULL.make();
        long taken = 0;
        for (long i = Integer.MIN_VALUE; i <= Integer.MAX_VALUE; i += 419) {
            int n = (int) i;
            taken += x.node(n, 0) != WatchTree.NOTHING ? 1 : 0;
            taken += x.child(n, 0) != WatchTree.REFUSED ? 1 : 0;
            taken += x.close(n) != WatchTree.REFUSED ? 1 : 0;
            taken += x.save(n) != WatchTree.REFUSED ? 1 : 0;
            taken += x.pass(n) != WatchTree.REFUSED ? 1 : 0;
            taken += x.part(n, 0, 0, 0) != WatchTree.REFUSED ? 1 : 0;
        }
        due.is("none of these ints is near 0", taken, 0);
    }

    /** What an object answers after its 512th call is free, but it answers: here the time has gone round. */
    private static void longAfterTheLastCall() {
        due.says(0, "Rule 7: No call may ever throw or fail to end, for any arguments in any state");
        WatchTree x = new WatchTree();
        for (int i = 0; i < 80_000_000; i++) {
            x.pass(30);
        }
        Random random = new Random(512);
        for (int call = 0; call < 5000; call++) {
            any(x, random);
        }
        due.is("all calls have ended", true, true);
    }
}
