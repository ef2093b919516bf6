/** States in which boundary tests look at calls; each is reached with at most 130 calls. */
enum Scene {
    /** A new object. */
    FRESH {
        @Override
        WatchTree make() {
            return new WatchTree();
        }
    },

    /** A bit of everything: session 2 is not open, nodes on each level, two parts wait, 19 places of a snapshot are left. */
    BUSY {
        @Override
        WatchTree make() {
            WatchTree x = Make.withSessions(2);
            x.open(9);
            x.open(20);
            x.close(2);
            x.pass(2);
            x.create(0, 1, 5, 0);
            x.create(0, Make.path(0, 0), 6, 0);
            x.create(1, Make.path(0, 0, 0), 7, 1);
            x.create(1, 2, 8, 1);
            x.watch(0, 0, 1);
            x.watch(3, 2, 1);
            x.set(0, 1, 9, -1);
            x.watch(0, 0, 1);
            x.watch(0, 1, 0);
            x.watch(1, 2, 50);
            x.watch(3, 1, 1);
            x.part(3, 0, 0, -1);
            x.part(3, 50, 0, -1);
            x.multi(0);
            x.save(5);
            x.set(3, 0, 10, -1);
            x.part(1, 0, 77, -1);
            x.part(3, 1, 0, -1);
            return x;
        }
    },

    /** Nothing has room: 4 sessions, 20 nodes, 16 watches, 8 events of session 0 and 6 parts. */
    CROWDED {
        @Override
        WatchTree make() {
            WatchTree x = Make.withSessions(4);
            for (int i = 1; i <= 13; i++) {
                x.create(0, i, i, 0);
            }
            x.create(2, Make.path(1, 0), 0, 0);
            for (int i = 0; i < 3; i++) {
                x.create(1, Make.path(0, i), i, 1);
                x.create(3, Make.path(1, 0, i), i, 3);
            }
            for (int i = 0; i < 9; i++) {
                x.watch(0, 0, 0);
                x.set(1, 0, i, -1);
            }
            for (int session = 0; session < 4; session++) {
                for (int kind = 0; kind < 3; kind++) {
                    x.watch(session, kind, 1);
                }
                x.watch(session, 2, 50);
            }
            x.part(1, 0, 77, -1);
            for (int i = 0; i < 5; i++) {
                x.part(3, 1, 0, -1);
            }
            return x;
        }
    },

    /** 40 transactions in the log, 21 places of a snapshot are left, two parts wait; sessions 0 and 1 are open. */
    LOG_FULL {
        @Override
        WatchTree make() {
            WatchTree x = Make.withSessions(2);
            x.create(0, 1, 5, 0);
            x.create(1, 2, 6, 1);
            x.watch(0, 0, 0);
            x.save(3);
            Make.fillLog(x, 40);
            x.watch(0, 2, 50);
            x.part(1, 0, 77, -1);
            x.part(3, 1, 0, -1);
            return x;
        }
    };

    abstract WatchTree make();
}
