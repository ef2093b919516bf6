/** Counts the answers of one test, prints the wrong ones and ends the program. */
final class Due {
    private int answers;
    private int wrong;

    void is(int promise, String call, long got, long want) {
        answers++;
        if (got != want) {
            wrong++;
            System.out.println("promise " + promise + ": " + call + " answered " + got + ", due is " + want);
        }
    }

    void is(int promise, String call, boolean got, boolean want) {
        is(promise, call, got ? 1 : 0, want ? 1 : 0);
    }

    /** The seven answers of node() for what 0 .. 6. */
    void node(int promise, WatchTree x, int path, long... want) {
        for (int what = 0; what < want.length; what++) {
            is(promise, "node(" + path + ", " + what + ")", x.node(path, what), want[what]);
        }
    }

    /** All the session's events, and that there is no further one. */
    void events(int promise, WatchTree x, int session, int... want) {
        for (int event : want) {
            is(promise, "event(" + session + ")", x.event(session), event);
        }
        is(promise, "event(" + session + ") at the end", x.event(session), WatchTree.REFUSED);
    }

    void end() {
        System.out.println(answers + " answers, " + wrong + " wrong");
        if (wrong != 0 || answers == 0) {
            System.exit(1);
        }
    }
}
