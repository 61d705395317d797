/** Promises 1 to 17. */
final class EdgesOfBoard extends Edges {
    EdgesOfBoard(Ledger doc) {
        super(doc);
    }

    @Override
    void all() {
        newObject();
        lies();
        signal();
        event();
        interpose();
        cancel();
        split();
        join();
        kin();
        work();
        closed();
        berth();
        track();
        since();
        came();
        held();
        log();
    }

    private void newObject() {
        doc.promise(1);
        TrainDescriber x = doc.says("All TRACKS clear, SIGNALS ON, BERTHS empty; no RULES.");
        for (int t = 0; t < 16; t++) {
            due(0, x.track(t));
        }
        for (int b = 0; b < 12; b++) {
            due(0, x.berth(b, 0));
        }
        for (int set = 0; set < 2; set++) {
            x.use(set);
            due(0, x.count(0));
        }
        for (int s = 0; s < 8; s++) {
            due(0, x.signal(s, 0));
        }
        TrainDescriber y = new TrainDescriber();
        for (int what = 0; what <= 11; what++) {
            due(0, y.count(what));
        }
    }

    private void lies() {
        doc.promise(2);
        TrainDescriber x = doc.says("The TRACK of a BERTH (NONE: none): what it was.");
        due(-1, x.lies(0, 0));
        due(0, x.lies(0, 15));
        due(15, x.lies(0, -1));
        due(-1, x.berth(0, 1));
        due(-1, x.lies(0, 7));
        due(0, x.status());
        due(-1, x.lies(11, 7));
        due(7, x.berth(11, 1));
        due(7, x.berth(0, 1));

        TrainDescriber y = doc.says("-1.");
        y.lies(0, 7);
        int[][] wrong = {{-1, 0}, {12, 0}, {0, -2}, {0, 16}, {MIN, 0}, {MAX, 0}, {0, MIN}, {0, MAX}};
        for (int[] w : wrong) {
            due(-1, y.lies(w[0], w[1]));
            due(-1, y.status());
            due(7, y.berth(0, 1));
        }
    }

    private void signal() {
        doc.promise(3);
        TrainDescriber x = doc.says("A SIGNAL is OFF (1), ON (0): what it was.");
        due(0, x.signal(0, 1));
        due(1, x.signal(0, 1));
        due(1, x.signal(0, 0));
        due(0, x.signal(0, 0));
        due(0, x.signal(7, 1));
        due(0, x.signal(6, 0));
        due(1, x.signal(7, 1));

        TrainDescriber y = doc.says("-1.");
        y.signal(0, 1);
        int[][] wrong = {{-1, 0}, {8, 0}, {0, -1}, {0, 2}, {MIN, 0}, {MAX, 0}, {0, MIN}, {0, MAX}};
        for (int[] w : wrong) {
            due(-1, y.signal(w[0], w[1]));
            due(-1, y.status());
        }
        due(1, y.signal(0, 1));
    }

    private void event() {
        doc.promise(4);
        TrainDescriber x = doc.says("An EVENT: how many NAMES moved or were cleared.");
        StringBuilder text = new StringBuilder("clear 11 at drop 0");
        for (int b = 10; b >= 0; b--) {
            text.append(";step ").append(b).append(" to ").append(b + 1).append(" at drop 0");
        }
        due(12, Check.rules(x, text.toString()));
        due(0, x.event(0, 0, 1));
        x.event(0, 0, 0);
        for (int b = 0; b < 12; b++) {
            x.interpose(0, b, 1 + b);
        }
        due(12, x.event(0, 0, 1));
        due(0, x.event(0, 0, 0));
        due(11, x.event(0, 0, 1));
        // An overrun one neither moved nor was cleared.
        TrainDescriber o = new TrainDescriber();
        Check.rules(o, "step 0 to 1 at pick 15");
        o.interpose(0, 0, 5);
        o.interpose(0, 1, 6);
        due(0, o.event(0, 15, 1));
        due(1, o.event(0, 15, 0));

        TrainDescriber y = doc.says("-1;");
        int[][] wrong = {{-1, 0, 1}, {10000, 0, 1}, {0, -1, 1}, {0, 16, 1}, {0, 0, -1}, {0, 0, 2}, {MIN, 0, 1},
            {MAX, 0, 1}, {0, MIN, 1}, {0, MAX, 1}, {0, 0, MIN}, {0, 0, MAX}};
        for (int[] w : wrong) {
            due(-1, y.event(w[0], w[1], w[2]));
            due(-1, y.status());
            due(0, y.track(0));
            due(-1, y.came(0, 0));
        }

        TrainDescriber z = doc.says("-3 a MINUTE ahead of the latest.");
        due(0, z.event(7, 0, 1));
        due(-3, z.event(6, 1, 1));
        due(-3, z.status());
        due(0, z.track(1));
        due(7, z.came(0, 0));
        due(0, z.event(7, 1, 1));
        due(0, z.status());
        // One that would be repeated is refused as well, and is none.
        due(-3, z.event(6, 1, 1));
        due(0, z.count(9));
    }

    private void interpose() {
        doc.promise(5);
        TrainDescriber x = doc.says("A NAME (1 .. 999) is interposed at a BERTH: which stood there.");
        due(0, x.interpose(0, 0, 1));
        due(1, x.interpose(0, 0, 999));
        due(999, x.interpose(0, 0, 999));
        due(999, x.berth(0, 0));
        due(0, x.interpose(9999, 11, 999));
        due(999, x.berth(11, 0));

        TrainDescriber y = doc.says("-1;");
        int[][] wrong = {{-1, 0, 5}, {10000, 0, 5}, {0, -1, 5}, {0, 12, 5}, {0, 0, 0}, {0, 0, 1000}, {0, 0, -5},
            {MIN, 0, 5}, {MAX, 0, 5}, {0, MIN, 5}, {0, MAX, 5}, {0, 0, MIN}, {0, 0, MAX}};
        for (int[] w : wrong) {
            due(-1, y.interpose(w[0], w[1], w[2]));
            due(-1, y.status());
            due(0, y.count(2));
        }

        TrainDescriber z = doc.says("-3.");
        z.interpose(7, 0, 5);
        due(-3, z.interpose(6, 0, 6));
        due(-3, z.status());
        due(5, z.berth(0, 0));
        due(1, z.count(2));
        due(5, z.interpose(7, 0, 6));
    }

    private void cancel() {
        doc.promise(6);
        TrainDescriber x = doc.says("The NAME at a BERTH is cancelled: it.");
        x.interpose(0, 11, 999);
        x.interpose(0, 0, 1);
        due(999, x.cancel(0, 11));
        due(0, x.berth(11, 0));
        due(1, x.cancel(9999, 0));
        due(0, x.berth(0, 0));
        due(9999, x.count(8));

        TrainDescriber y = doc.says("-1;");
        y.interpose(0, 0, 5);
        int[][] wrong = {{-1, 0}, {10000, 0}, {0, -1}, {0, 12}, {MIN, 0}, {MAX, 0}, {0, MIN}, {0, MAX}};
        for (int[] w : wrong) {
            due(-1, y.cancel(w[0], w[1]));
            due(-1, y.status());
            due(5, y.berth(0, 0));
        }

        TrainDescriber z = doc.says("-3 (a MINUTE ahead of the latest, no NAME).");
        z.interpose(7, 0, 5);
        due(-3, z.cancel(6, 0));
        due(-3, z.status());
        due(5, z.berth(0, 0));
        due(-3, z.cancel(9, 1));
        due(-3, z.status());
        due(7, z.count(8));
        due(5, z.cancel(7, 0));
        due(-3, z.cancel(7, 0));
        due(2, z.count(2));
    }

    private void split() {
        doc.promise(7);
        TrainDescriber x = doc.says("SPLIT: a part gets a NAME (1 .. 999) at a BERTH: the NAME of the other part.");
        x.interpose(0, 0, 5);
        due(5, x.split(0, 0, 11, 999));
        due(999, x.berth(11, 0));
        due(5, x.split(0, 0, 1, 1));
        due(1, x.berth(1, 0));
        due(1, x.split(0, 1, 2, 5));
        due(999, x.split(9999, 11, 10, 999));
        due(9999, x.count(8));
        due(5, x.berth(0, 0));

        TrainDescriber y = doc.says("-1;");
        y.interpose(0, 0, 5);
        int[][] wrong = {{-1, 0, 1, 6}, {10000, 0, 1, 6}, {0, -1, 1, 6}, {0, 12, 1, 6}, {0, 0, -1, 6}, {0, 0, 12, 6},
            {0, 0, 1, 0}, {0, 0, 1, 1000}, {MIN, 0, 1, 6}, {0, MAX, 1, 6}, {0, 0, MIN, 6}, {0, 0, 1, MAX}};
        for (int[] w : wrong) {
            due(-1, y.split(w[0], w[1], w[2], w[3]));
            due(-1, y.status());
            due(1, y.alarms(2));
        }

        TrainDescriber z = doc.says("-3 (a MINUTE ahead of the latest, no NAME at the first, one at the other).");
        z.interpose(7, 0, 5);
        z.interpose(7, 1, 6);
        due(-3, z.split(6, 0, 2, 9));
        due(-3, z.status());
        due(-3, z.split(8, 2, 3, 9));
        due(-3, z.split(8, 0, 1, 9));
        due(-3, z.split(8, 0, 0, 9));
        due(-3, z.status());
        due(7, z.count(8));
        due(3, z.alarms(2));
        due(0, z.kin(9, 0));
        due(5, z.split(7, 0, 2, 9));
    }

    private void join() {
        doc.promise(8);
        TrainDescriber x = doc.says("JOIN: the NAME at a BERTH ends at another one: it.");
        x.interpose(0, 0, 1);
        x.interpose(0, 11, 999);
        x.interpose(0, 1, 999);
        due(999, x.join(0, 11, 1));
        due(0, x.berth(11, 0));
        due(999, x.berth(1, 0));
        due(999, x.kin(999, 1));
        due(1, x.join(9999, 0, 1));
        due(9999, x.count(8));
        due(2, x.alarms(2));

        TrainDescriber y = doc.says("-1 (the same BERTH, too);");
        y.interpose(0, 0, 5);
        y.interpose(0, 1, 6);
        int[][] wrong = {{0, 0, 0}, {0, 11, 11}, {-1, 0, 1}, {10000, 0, 1}, {0, -1, 1}, {0, 12, 1}, {0, 0, -1},
            {0, 0, 12}, {MIN, 0, 1}, {0, MAX, 1}, {0, 0, MIN}, {0, 12, 12}};
        for (int[] w : wrong) {
            due(-1, y.join(w[0], w[1], w[2]));
            due(-1, y.status());
            due(3, y.alarms(2));
        }

        TrainDescriber z = doc.says("-3 (a MINUTE ahead of the latest, no NAME at one of both).");
        z.interpose(7, 0, 5);
        z.interpose(7, 1, 6);
        due(-3, z.join(6, 0, 1));
        due(-3, z.status());
        due(-3, z.join(8, 0, 2));
        due(-3, z.join(8, 2, 0));
        due(-3, z.join(8, 2, 3));
        due(-3, z.status());
        due(7, z.count(8));
        due(3, z.alarms(2));
        due(0, z.kin(5, 1));
        due(5, z.join(7, 0, 1));
    }

    private void kin() {
        doc.promise(9);
        TrainDescriber x = doc.says("KIN of a NAME: from which one it was split latest (what 0), to which one it was"
                + " joined latest (1);");
        x.interpose(0, 0, 7);
        x.split(0, 0, 1, 999);
        x.split(0, 1, 2, 1);
        due(7, x.kin(999, 0));
        due(999, x.kin(1, 0));
        x.join(0, 1, 0);
        x.join(0, 0, 2);
        due(7, x.kin(999, 1));
        due(1, x.kin(7, 1));

        TrainDescriber y = doc.says("0: none.");
        due(0, y.kin(1, 0));
        due(0, y.kin(999, 1));
        y.interpose(0, 0, 7);
        y.split(0, 0, 1, 8);
        due(0, y.kin(8, 1));
        due(0, y.kin(7, 0));
        due(0, y.kin(7, 1));
        y.join(0, 1, 0);
        due(0, y.kin(7, 1));

        TrainDescriber z = doc.says("NONE.");
        int[][] wrong = {{0, 0}, {1000, 0}, {-1, 1}, {1, -1}, {1, 2}, {MIN, 0}, {MAX, 0}, {1, MIN}, {1, MAX}};
        for (int[] w : wrong) {
            due(-1, z.kin(w[0], w[1]));
        }
    }

    private void work() {
        doc.promise(10);
        TrainDescriber x = doc.says("WORK at a BERTH: how many there are.");
        due(1, x.work(0, 0, 0));
        due(2, x.work(11, 9999, 9999));
        due(3, x.work(0, 0, 9999));
        due(3, x.count(10));

        TrainDescriber y = doc.says("-1 (a MINUTE to ahead of that from, too);");
        int[][] wrong = {{0, 5, 4}, {0, 9999, 0}, {-1, 5, 9}, {12, 5, 9}, {0, -1, 9}, {0, 5, 10000}, {0, 10000, 10000},
            {0, -1, -1}, {MIN, 5, 9}, {MAX, 5, 9}, {0, MIN, 9}, {0, 5, MAX}};
        for (int[] w : wrong) {
            due(-1, y.work(w[0], w[1], w[2]));
            due(-1, y.status());
            due(0, y.count(10));
        }
        due(1, y.work(0, 5, 5));
        due(0, y.status());

        TrainDescriber z = doc.says("-5.");
        for (int i = 1; i <= 8; i++) {
            due(i, z.work(3, 5, 9));
        }
        due(-5, z.work(4, 5, 9));
        due(-5, z.status());
        due(0, z.closed(4, 5));
        due(8, z.count(10));
    }

    private void closed() {
        doc.promise(11);
        TrainDescriber x = doc.says("Whether a BERTH is closed in a MINUTE: 1, 0.");
        due(0, x.closed(0, 0));
        x.work(0, 0, 0);
        x.work(11, 9998, 9999);
        x.work(5, 10, 20);
        x.work(5, 22, 30);
        due(1, x.closed(0, 0));
        due(0, x.closed(0, 1));
        due(0, x.closed(1, 0));
        due(0, x.closed(11, 9997));
        due(1, x.closed(11, 9998));
        due(1, x.closed(11, 9999));
        due(0, x.closed(5, 9));
        due(1, x.closed(5, 10));
        due(1, x.closed(5, 20));
        due(0, x.closed(5, 21));
        due(1, x.closed(5, 22));
        due(0, x.closed(5, 31));

        TrainDescriber y = doc.says("NONE.");
        y.work(0, 0, 9999);
        int[][] wrong = {{-1, 5}, {12, 5}, {0, -1}, {0, 10000}, {MIN, 5}, {MAX, 5}, {0, MIN}, {0, MAX}};
        for (int[] w : wrong) {
            due(-1, y.closed(w[0], w[1]));
        }
    }

    private void berth() {
        doc.promise(12);
        TrainDescriber x = doc.says("Of a BERTH its NAME (what 0), its TRACK (1), BAD bits (2).");
        due(0, x.berth(0, 0));
        due(-1, x.berth(0, 1));
        due(0, x.berth(0, 2));
        x.interpose(0, 11, 999);
        x.lies(11, 15);
        x.bad(11, 1023);
        due(999, x.berth(11, 0));
        due(15, x.berth(11, 1));
        due(1023, x.berth(11, 2));
        due(0, x.berth(10, 0));

        TrainDescriber y = doc.says("NONE.");
        int[][] wrong = {{-1, 0}, {12, 0}, {-1, 2}, {12, 2}, {0, -1}, {0, 3}, {MIN, 0}, {MAX, 0}, {0, MIN}, {0, MAX}};
        for (int[] w : wrong) {
            due(-1, y.berth(w[0], w[1]));
        }
    }

    private void track() {
        doc.promise(13);
        TrainDescriber x = doc.says("Whether a TRACK is OCCUPIED: 1, 0;");
        x.event(0, 15, 1);
        x.event(0, 0, 1);
        due(1, x.track(15));
        due(1, x.track(0));
        due(0, x.track(14));
        x.event(0, 15, 0);
        due(0, x.track(15));

        TrainDescriber y = doc.says("NONE.");
        for (int t : new int[] {-1, 16, 31, 32, MIN, MAX}) {
            due(-1, y.track(t));
        }
    }

    private void since() {
        doc.promise(14);
        TrainDescriber x = doc.says("Since which MINUTE a TRACK is as it is (0: always).");
        due(0, x.since(0));
        x.event(5, 0, 0);
        due(0, x.since(0));
        x.event(6, 0, 1);
        due(6, x.since(0));
        x.event(7, 0, 1);
        due(6, x.since(0));
        x.event(8, 0, 0);
        due(8, x.since(0));
        due(0, x.since(1));
        x.event(9999, 15, 1);
        due(9999, x.since(15));

        TrainDescriber y = doc.says("NONE.");
        for (int t : new int[] {-1, 16, MIN, MAX}) {
            due(-1, y.since(t));
        }
    }

    private void came() {
        doc.promise(15);
        TrainDescriber x = doc.says("Of the i-th latest EVENT (0 the latest; 50 are kept, REPEATED ones too)");
        for (int i = 0; i < 49; i++) {
            x.event(i, 0, 0);
        }
        due(0, x.came(48, 0));
        due(-1, x.came(49, 0));
        x.event(49, 1, 1);
        due(0, x.came(49, 0));
        due(49, x.came(0, 0));
        x.event(50, 2, 1);
        due(50, x.came(0, 0));
        due(1, x.came(49, 0));
        due(-1, x.came(50, 0));
        // Once more around, and then some.
        for (int i = 51; i < 131; i++) {
            x.event(i, 3, i % 2);
        }
        due(130, x.came(0, 0));
        due(81, x.came(49, 0));
        due(-1, x.came(50, 0));

        TrainDescriber y = doc.says("0 MINUTE, 1 TRACK, 2 1 if it dropped, else 0, 3 1 if it was REPEATED, else 0.");
        y.event(3, 15, 1);
        y.event(4, 15, 1);
        y.event(9999, 15, 0);
        int[][] want = {{9999, 15, 0, 0}, {4, 15, 1, 1}, {3, 15, 1, 0}};
        for (int i = 0; i < 3; i++) {
            for (int what = 0; what < 4; what++) {
                due(want[i][what], y.came(i, what));
            }
        }

        TrainDescriber z = doc.says("NONE.");
        due(-1, z.came(0, 0));
        z.event(3, 15, 1);
        int[][] wrong = {{-1, 0}, {1, 0}, {0, -1}, {0, 4}, {MIN, 0}, {MAX, 0}, {0, MIN}, {0, MAX}};
        for (int[] w : wrong) {
            due(-1, z.came(w[0], w[1]));
        }
        due(3, z.came(0, 0));
        // A refused one did not come.
        z.event(2, 1, 1);
        due(-1, z.came(1, 0));
    }

    private void held() {
        doc.promise(16);
        TrainDescriber x = doc.says("How many TRACKS are OCCUPIED longer than so many MINUTES (0 .. 9999) at a MINUTE"
                + " (what NONE),");
        due(0, x.held(9999, 0, -1));
        for (int t = 0; t < 16; t++) {
            x.event(10, t, 1);
        }
        due(0, x.held(10, 0, -1));
        due(16, x.held(11, 0, -1));
        due(0, x.held(11, 1, -1));
        due(0, x.held(9, 0, -1));
        due(0, x.held(0, 0, -1));
        due(16, x.held(9999, 9988, -1));
        due(0, x.held(9999, 9989, -1));
        due(0, x.held(9999, 9999, -1));
        x.event(12, 3, 0);
        due(15, x.held(13, 0, -1));
        TrainDescriber first = new TrainDescriber();
        first.event(0, 0, 1);
        due(1, first.held(9999, 9998, -1));
        due(0, first.held(9999, 9999, -1));

        TrainDescriber y = doc.says("the one of them with number what: 1 if it is, else 0.");
        y.event(10, 0, 1);
        y.event(12, 15, 1);
        due(1, y.held(20, 9, 0));
        due(0, y.held(20, 10, 0));
        due(1, y.held(20, 7, 15));
        due(0, y.held(20, 8, 15));
        due(0, y.held(20, 0, 1));

        TrainDescriber z = doc.says("NONE.");
        z.event(0, 0, 1);
        int[][] wrong = {{-1, 0, -1}, {10000, 0, -1}, {9, -1, -1}, {9, 10000, -1}, {9, 0, -2}, {9, 0, 16}, {MIN, 0, 0},
            {MAX, 0, 0}, {9, MIN, 0}, {9, MAX, 0}, {9, 0, MIN}, {9, 0, MAX}};
        for (int[] w : wrong) {
            due(-1, z.held(w[0], w[1], w[2]));
        }
    }

    private void log() {
        doc.promise(17);
        TrainDescriber x = doc.says("Of the i-th latest in the LOG (0 the latest) 0 MINUTE, 1 KIND, 2 FROM, 3 TO, 4 NAME.");
        x.interpose(3, 4, 5);
        x.split(6, 4, 7, 8);
        int[][] want = {{6, 6, 4, 7, 8}, {3, 2, -1, 4, 5}};
        for (int i = 0; i < 2; i++) {
            for (int what = 0; what < 5; what++) {
                due(want[i][what], x.log(i, what));
            }
        }
        // Rows go around behind the hundredth.
        for (int i = 0; i < 150; i++) {
            x.interpose(10 + i, 4, 1 + i);
        }
        due(159, x.log(0, 0));
        due(150, x.log(0, 4));
        due(149, x.log(1, 4));
        due(100, x.log(99, 4));
        due(101, x.log(98, 4));

        TrainDescriber y = doc.says("NONE.");
        due(-1, y.log(0, 0));
        y.interpose(3, 4, 5);
        int[][] wrong = {{-1, 0}, {1, 0}, {100, 0}, {0, -1}, {0, 5}, {MIN, 0}, {MAX, 0}, {0, MIN}, {0, MAX}};
        for (int[] w : wrong) {
            due(-1, y.log(w[0], w[1]));
        }
        due(3, y.log(0, 0));
    }
}
