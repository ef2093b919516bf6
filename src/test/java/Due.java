/** Counts the answers of one test, prints the wrong ones and ends the program. */
final class Due {
    /** Far above what any test needs: a call that does not end must not leave the tests waiting. */
    private static final long LONGEST_MILLIS = 600_000;

    private int answers;
    private int wrong;
    private int promise;
    private String sentence = "";
    private int answersBefore;
    private int sentences;

    Due() {
        Thread watchman = new Thread(Due::endAtLast);
        watchman.setDaemon(true);
        watchman.start();
    }

    private static void endAtLast() {
        try {
            Thread.sleep(LONGEST_MILLIS);
        } catch (InterruptedException e) {
            System.out.println("the watchman was woken");
        }
        System.out.println("the test does not end");
        Runtime.getRuntime().halt(1);
    }

    /** What follows is due by this sentence of the document: of a promise, or (0) of its terms. */
    void says(int promiseOfIt, String words) {
        endSentence();
        promise = promiseOfIt;
        sentence = words;
        answersBefore = answers;
        sentences++;
    }

    private void endSentence() {
        if (sentences > 0 && answers == answersBefore) {
            wrong++;
            System.out.println("no answer was looked at for: " + sentence);
        }
    }

    void is(int promiseOfIt, String call, long got, long want) {
        answers++;
        if (got != want) {
            wrong++;
            String by = promiseOfIt == 0 ? "" : "promise " + promiseOfIt + ": ";
            String quoted = sentence.isEmpty() ? "" : "\"" + sentence + "\": ";
            System.out.println(by + quoted + call + " answered " + got + ", due is " + want);
        }
    }

    void is(String call, long got, long want) {
        is(promise, call, got, want);
    }

    void is(int promiseOfIt, String call, boolean got, boolean want) {
        is(promiseOfIt, call, got ? 1 : 0, want ? 1 : 0);
    }

    void is(String call, boolean got, boolean want) {
        is(promise, call, got, want);
    }

    /** The seven answers of node() for what 0 .. 6. */
    void node(int promiseOfIt, WatchTree x, int path, long... want) {
        for (int what = 0; what < want.length; what++) {
            is(promiseOfIt, "node(" + path + ", " + what + ")", x.node(path, what), want[what]);
        }
    }

    void node(WatchTree x, int path, long... want) {
        node(promise, x, path, want);
    }

    /** All the session's events, and that there is no further one. */
    void events(int promiseOfIt, WatchTree x, int session, int... want) {
        for (int event : want) {
            is(promiseOfIt, "event(" + session + ")", x.event(session), event);
        }
        is(promiseOfIt, "event(" + session + ") at the end", x.event(session), WatchTree.REFUSED);
    }

    void events(WatchTree x, int session, int... want) {
        events(promise, x, session, want);
    }

    void end() {
        endSentence();
        String by = sentences == 0 ? "" : " by " + sentences + " sentences";
        System.out.println(answers + " answers" + by + ", " + wrong + " wrong");
        if (wrong != 0 || answers == 0) {
            System.exit(1);
        }
    }
}
