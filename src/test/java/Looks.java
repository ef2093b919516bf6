import java.util.ArrayList;
import java.util.List;
import java.util.function.ToLongFunction;

/** Looks at all that an object would answer, to see that a call has changed nothing. */
final class Looks {
    private static final int[] WATCHED = {0, 1, 2, 50, 102};

    private Looks() {
    }

    /** That the call answers what is due in this scene, and that the object is as it would be without it. */
    static void unchanged(Due due, Scene scene, String call, ToLongFunction<WatchTree> made, long want) {
        WatchTree x = scene.make();
        due.is(call + " in " + scene, made.applyAsLong(x), want);
        List<Long> got = everything(x);
        List<Long> without = everything(scene.make());
        due.is(call + " in " + scene + " changes nothing, which", got.equals(without), true);
    }

    /** Takes less than 380 calls, and the object is another one after it: events are taken, parts are done. */
    static List<Long> everything(WatchTree x) {
        List<Long> seen = new ArrayList<>();
        numbers(x, seen);
        tree(x, seen);
        events(x, seen);
        watches(x, seen);
        seen.add((long) x.part(3, 0, 0, -1));
        int firstOpen = Integer.numberOfTrailingZeros(x.state() % 16 | 16);
        seen.add((long) x.multi(firstOpen));
        numbers(x, seen);
        node(x, 0, seen);
        events(x, seen);
        seen.add((long) x.save(1));
        return seen;
    }

    private static void numbers(WatchTree x, List<Long> seen) {
        seen.add((long) x.state());
        seen.add((long) x.latest());
        seen.add((long) x.logged());
        seen.add((long) x.watches());
        seen.add((long) x.wrongPart());
        for (int session = 0; session < 4; session++) {
            seen.add((long) x.left(session));
        }
    }

    private static void node(WatchTree x, int path, List<Long> seen) {
        for (int what = 0; what < 7; what++) {
            seen.add(x.node(path, what));
        }
    }

    private static void tree(WatchTree x, List<Long> seen) {
        List<Integer> paths = new ArrayList<>(List.of(0));
        for (int i = 0; i < paths.size(); i++) {
            int path = paths.get(i);
            node(x, path, seen);
            long children = x.node(path, 6);
            for (int k = 0; k < children; k++) {
                paths.add(x.child(path, k));
            }
        }
        paths.forEach(path -> seen.add((long) path));
    }

    private static void events(WatchTree x, List<Long> seen) {
        for (int session = 0; session < 4; session++) {
            long event;
            do {
                event = x.event(session);
                seen.add(event);
            } while (event >= 0);
        }
    }

    /** watch() answers 0 for a watch that is there, also when there is no room for another. */
    private static void watches(WatchTree x, List<Long> seen) {
        for (int session = 0; session < 4; session++) {
            for (int path : WATCHED) {
                for (int kind = 0; kind < 3; kind++) {
                    seen.add((long) x.watch(session, kind, path));
                }
            }
        }
    }
}
