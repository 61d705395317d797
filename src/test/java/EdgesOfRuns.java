import java.util.List;

/** Terms III; promises 23 to 30. */
final class EdgesOfRuns extends Edges {
    /** Which of two names comes to 2 and which to 3 hangs on what drops first. */
    private static final String FIRST_COME = "step 0 to 2 at drop 1 if not full 2; step 0 to 3 at drop 1;"
            + "step 1 to 2 at drop 2 if not full 2; step 1 to 3 at drop 2";

    EdgesOfRuns(Ledger doc) {
        super(doc);
    }

    @Override
    void all() {
        doc.section("Terms");
        rows();
        onPaper();
        faultKinds();
        verdicts();
        swapped();
        pairs();
        fewestBerths();
        otherSet();
        run();
        ends();
        proof();
        fails();
        swaps();
        two();
        watch();
        other();
    }

    /** Rules, then names in the berths from 0 on (0: none), then a run of tracks that drop (from 100 on: pick up). */
    private static TrainDescriber ran(TrainDescriber x, String rules, int[] names, int... tracks) {
        Check.rules(x, rules);
        for (int b = 0; b < names.length; b++) {
            if (names[b] != 0) {
                x.interpose(0, b, names[b]);
            }
        }
        Check.run(x, tracks);
        return x;
    }

    private static int[] names(int... names) {
        return names;
    }

    private static int[] row(int events) {
        int[] bytes = new int[2 * events];
        for (int i = 0; i < events; i++) {
            bytes[2 * i + 1] = 128;
        }
        return bytes;
    }

    private void rows() {
        TrainDescriber x = doc.says("A RUN: a ROW of EVENTS, the TAPE's bytes by twos, 60 at most: how many MINUTES"
                + " behind the one ahead of it, and a TRACK with 128 if it drops; one with any other number is none (it"
                + " is passed by), a single byte at the end too.");
        Check.rules(x, "step 0 to 1 at drop 15; step 1 to 2 at pick 15; step 2 to 3 at drop 0; step 3 to 4 at pick 0");
        x.interpose(0, 0, 5);
        int[][] tapes = {{0, 143}, {255, 143, 255, 15}, {0, 143, 0, 15, 0, 128}, {1, 143, 2, 15, 3, 128, 4, 0}};
        for (int i = 0; i < tapes.length; i++) {
            Check.tape(x, tapes[i]);
            due(i + 1, x.run());
            due(5, x.ends(i + 1));
        }
        for (int none : new int[] {16, 17, 100, 126, 127, 144, 145, 254, 255}) {
            Check.tape(x, 0, none);
            due(-6, x.run());
            Check.tape(x, 0, none, 0, 143, 143, none, 0, 15, 0, none);
            due(2, x.run());
            due(5, x.ends(2));
        }
        Check.tape(x, 0, 143, 143);
        due(1, x.run());
        Check.tape(x, 143);
        due(-6, x.run());
        Check.tape(x, row(60));
        due(60, x.run());
        Check.tape(x, row(61));
        due(-6, x.run());
        // The minutes of a row may go far beyond 9999.
        x.interpose(9999, 5, 6);
        Check.tape(x, 255, 143, 255, 15);
        due(2, x.run());
    }

    private void onPaper() {
        TrainDescriber x = doc.says("It goes on from what stands, on paper: nothing is kept.");
        Check.rules(x, "step 0 to 1 at drop 1; step 0 to 2 at pick 1; step 3 to 4 at drop 2 if signal 5;"
                + "clear 6 at drop 3 if track 1");
        x.event(1, 1, 1);
        x.signal(5, 1);
        x.work(2, 0, 9999);
        x.interpose(2, 0, 5);
        x.interpose(2, 3, 6);
        x.interpose(2, 6, 7);
        List<Integer> before = Answers.kept(x);
        // Track 1 stands occupied: its drop is repeated, its pick moves a name into the berth that is closed.
        due(4, Check.run(x, 1, 3, 101, 2));
        due(5, x.ends(2));
        due(6, x.ends(4));
        due(0, x.ends(6));
        due(0, Answers.apart(before, Answers.kept(x)));
        // Again from what stands, not from where the run before ended.
        due(1, Check.run(x, 2));
        due(5, x.ends(0));
        due(6, x.ends(4));
    }

    private void faultKinds() {
        TrainDescriber x = doc.says("FAULTS, one at a time: 0 EVENT i is MISSING;");
        ran(x, "step 0 to 1 at drop 1; step 1 to 2 at drop 2; step 2 to 3 at drop 3", names(5), 1, 2, 3);
        due(5, x.ends(3));
        for (int i = 0; i < 3; i++) {
            due(1, x.fails(i, 0));
        }
        ran(x, "step 0 to 1 at drop 1; step 0 to 1 at drop 2", names(), 1, 2);
        due(0, x.fails(0, 0));
        due(0, x.fails(1, 0));
        // What dropped ahead of the one that is missing is occupied still.
        TrainDescriber ahead = ran(new TrainDescriber(), "step 0 to 1 at drop 2 if track 1", names(5), 1, 3, 2);
        due(5, ahead.ends(1));
        due(1, ahead.fails(0, 0));
        due(0, ahead.fails(1, 0));

        TrainDescriber y = doc.says("1 it BOBS: it comes, then its contrary, then it again;");
        // By a bob the name goes on from 1 to 2 when the track drops again.
        ran(y, "step 1 to 2 at drop 1; step 0 to 1 at drop 1", names(5), 1);
        due(5, y.ends(1));
        due(1, y.fails(0, 1));
        // The contrary takes it back, and it comes again.
        ran(y, "step 0 to 1 at drop 1; step 1 to 0 at pick 1", names(), 1);
        due(0, y.fails(0, 1));
        // The contrary clears what had come.
        ran(y, "step 0 to 1 at drop 1; clear 1 at pick 1", names(), 1);
        due(2, y.fails(0, 1));
        // One that is repeated becomes one that counts: track 9 is occupied already.
        y.event(0, 9, 1);
        ran(y, "step 0 to 1 at drop 9", names(), 9);
        due(5, y.ends(0));
        due(0, y.fails(0, 0));
        due(1, y.fails(0, 1));

        TrainDescriber z = doc.says("2 it is LATE: it comes behind the next one (not the last one).");
        ran(z, "step 0 to 1 at drop 1; step 1 to 2 at drop 2; step 2 to 3 at drop 3", names(5), 1, 2, 3);
        due(1, z.fails(0, 2));
        due(1, z.fails(1, 2));
        due(-1, z.fails(2, 2));
        due(8, z.proof(0) + z.proof(1) + z.proof(2));
        Check.run(z, 1);
        due(-1, z.fails(0, 2));
        due(2, z.proof(0) + z.proof(1) + z.proof(2));
        // Each of both comes once: the pick is repeated, then the track drops and stays so.
        TrainDescriber once = ran(new TrainDescriber(), "step 0 to 1 at drop 1; step 1 to 2 at pick 1", names(5), 1, 101);
        due(5, once.ends(2));
        due(1, once.fails(0, 2));
        // Behind the next one alone, not behind all: 1 and 2 change places, and 3 comes last.
        ran(z, "step 0 to 1 at drop 1 if not track 3; step 0 to 2 at drop 1", names(), 1, 2, 3);
        due(0, z.fails(0, 2));
    }

    private void verdicts() {
        TrainDescriber x = doc.says("With each a FAULT is HELD, if all BERTHS end as without it;");
        // The tracks end otherwise: that does not count.
        ran(x, "step 0 to 1 at drop 1", names(5), 1, 2, 101);
        due(0, x.fails(1, 0));
        due(0, x.fails(2, 0));
        due(1, x.fails(0, 0));
        // One berth alone, the last one.
        TrainDescriber last = ran(new TrainDescriber(), "clear 11 at drop 1", names(5, 0, 0, 0, 0, 0, 0, 0, 0, 0, 0, 6), 1);
        due(2, last.fails(0, 0));

        TrainDescriber y = doc.says("SHIFTED, if not, but the same NAMES are there, each as often;");
        ran(y, "step 0 to 11 at drop 1", names(5), 1);
        due(1, y.fails(0, 0));
        // Two of one name stay two.
        TrainDescriber twins = ran(new TrainDescriber(), "step 0 to 2 at drop 1", names(5, 5), 1);
        due(1, twins.fails(0, 0));
        // No berth has its name of before, yet all names are there.
        TrainDescriber round = ran(new TrainDescriber(),
                "step 0 to 3 at drop 1; step 1 to 0 at drop 1; step 2 to 1 at drop 1; step 3 to 2 at drop 1",
                names(5, 6, 7), 1);
        due(1, round.fails(0, 0));

        TrainDescriber z = doc.says("LOST else.");
        ran(z, "clear 0 at drop 1", names(5), 1);
        due(2, z.fails(0, 0));
        // The same names, not as often: 5, 5, 6 without it, 5, 5, 6, 6 with it.
        TrainDescriber fewer = ran(new TrainDescriber(), "step 0 to 2 at drop 1", names(5, 5, 6, 6), 1);
        due(2, fewer.fails(0, 0));
        // As many in all, and the same ones: 5, 5, 6 without it, 5, 6, 6 with it.
        TrainDescriber asMany = ran(new TrainDescriber(),
                "step 0 to 1 at drop 1 if track 2; step 3 to 2 at drop 1 if not track 2", names(5, 6, 5, 6), 2, 1);
        due(2, asMany.fails(0, 0));
        // As many berths full, each by another name.
        TrainDescriber others = ran(new TrainDescriber(), "step 0 to 2 at drop 1; clear 0 at drop 2", names(5, 0, 6), 1, 2);
        due(2, others.fails(0, 0));
    }

    private void swapped() {
        TrainDescriber x = doc.says("A SHIFTED one is a SWAP, if just two BERTHS end otherwise, and both have NAMES in"
                + " both.");
        ran(x, FIRST_COME, names(5, 6), 1, 2);
        due(1, x.fails(0, 2));
        due(1, x.swaps(0, 0));
        due(2, x.swaps(1, 0));
        // Two berths, one of them empty in each.
        TrainDescriber moved = ran(new TrainDescriber(), "step 0 to 1 at drop 1", names(5), 1);
        due(1, moved.fails(0, 0));
        due(0, moved.swaps(0, 0));
        TrainDescriber last = ran(new TrainDescriber(), "step 10 to 11 at drop 1",
                names(0, 0, 0, 0, 0, 0, 0, 0, 0, 0, 5), 1);
        due(1, last.fails(0, 0));
        due(0, last.swaps(0, 0));
        // Three berths, all full in both.
        TrainDescriber round = ran(new TrainDescriber(),
                "step 0 to 3 at drop 1; step 1 to 0 at drop 1; step 2 to 1 at drop 1; step 3 to 2 at drop 1",
                names(5, 6, 7), 1);
        due(1, round.fails(0, 0));
        due(0, round.swaps(0, 0));
        // Two berths, full in both, yet lost and not shifted.
        TrainDescriber lost = ran(new TrainDescriber(),
                "step 2 to 0 at drop 1; step 3 to 1 at drop 1; clear 2 at drop 2; clear 3 at drop 2",
                names(5, 6, 7, 8), 1, 2);
        due(2, lost.fails(0, 0));
        due(0, lost.swaps(0, 0));
        // Two swaps at once are four berths.
        TrainDescriber four = ran(new TrainDescriber(), "step 0 to 4 at drop 1; step 1 to 0 at drop 1;"
                + "step 4 to 1 at drop 1; step 2 to 4 at drop 1; step 3 to 2 at drop 1; step 4 to 3 at drop 1",
                names(5, 6, 7, 8), 1);
        due(1, four.fails(0, 0));
        due(0, four.swaps(0, 0));
    }

    private void pairs() {
        TrainDescriber x = doc.says("TWO: two EVENTS MISSING at once (i ahead of k), HELD, SHIFTED, LOST likewise;");
        ran(x, "step 0 to 1 at drop 1; clear 2 at drop 2", names(5, 0, 6), 1, 2, 3, 4);
        // Of six pairs: 1 with 2 and 2 with 3, 4 lost; 1 with 3, 4 shifted; 3 with 4 held.
        due(1, x.two(0));
        due(2, x.two(1));
        due(3, x.two(2));

        // By what comes behind the second one a name ends in a berth that it had not reached by then.
        TrainDescriber behind = ran(new TrainDescriber(), "step 0 to 1 at drop 1; step 0 to 3 at drop 3", names(5), 1, 2, 3);
        due(1, behind.two(0));
        due(2, behind.two(1));
        due(0, behind.two(2));

        TrainDescriber y = doc.says("HIDDEN are those of TWO that are not HELD, though each of them MISSING alone is.");
        ran(y, "step 0 to 1 at drop 1; step 0 to 1 at drop 2; step 3 to 4 at drop 3", names(5, 0, 0, 6), 1, 2, 3);
        // 1 with 2 alone; those with 3 are not held, but neither is 3.
        due(0, y.two(0));
        due(3, y.two(1));
        due(1, y.two(3));
        due(1, y.two(4));
        Check.run(y, 3, 1, 2);
        due(3, y.two(1));
        due(1, y.two(3));
        due(62, y.two(4));
        // A lost pair may be hidden as well.
        TrainDescriber z = ran(new TrainDescriber(), "clear 0 at drop 1; clear 0 at drop 2", names(5), 1, 2);
        due(1, z.two(2));
        due(1, z.two(3));
        // Alone the first is not held, both are: held pairs are never hidden.
        TrainDescriber w = ran(new TrainDescriber(), "step 0 to 1 at drop 1; step 1 to 0 at pick 1", names(5), 1, 101);
        due(0, w.fails(0, 0));
        due(1, w.fails(1, 0));
        due(1, w.two(0));
        due(0, w.two(3));
    }

    private void fewestBerths() {
        TrainDescriber x = doc.says("WATCH: the fewest BERTHS to be looked at so that for each FAULT that is not HELD one"
                + " of them ends otherwise than without it;");
        due(0, ran(x, "clear 0 at drop 1", names(), 1).watch());
        // Berth 2 ends otherwise with each of them, so it does alone.
        TrainDescriber y = ran(new TrainDescriber(), "step 0 to 1 at drop 1; step 1 to 2 at drop 2", names(5), 1, 2);
        due(5, y.ends(2));
        due(4, y.watch());
        StringBuilder text = new StringBuilder();
        int[] all = new int[12];
        int[] row = new int[12];
        for (int b = 0; b < 12; b++) {
            text.append(b == 0 ? "" : ";").append("clear ").append(b).append(" at drop ").append(b);
            all[b] = 1 + b;
            row[b] = b;
        }
        due(4095, ran(new TrainDescriber(), text.toString(), all, row).watch());

        TrainDescriber z = doc.says("of alike ones the lowest bits as a number.");
        due(1, ran(z, "step 0 to 11 at drop 1", names(5), 1).watch());
        due(1, ran(new TrainDescriber(), "step 11 to 0 at drop 1", names(0, 0, 0, 0, 0, 0, 0, 0, 0, 0, 0, 5), 1).watch());
        // One of 10 and 11, and one of 2 and 3.
        due(4 + 1024, ran(new TrainDescriber(), "step 10 to 11 at drop 1; step 3 to 2 at drop 2",
                names(0, 0, 0, 6, 0, 0, 0, 0, 0, 0, 5), 1, 2).watch());
    }

    private void otherSet() {
        TrainDescriber x = doc.says("The OTHER set of RULES has the RUN too, FAULT by FAULT (ends without a FAULT by that"
                + " set itself).");
        x.use(1);
        Check.rules(x, "clear 0 at drop 1; step 2 to 3 at drop 2");
        x.use(0);
        ran(x, "step 0 to 1 at drop 1", names(5, 0, 6), 1, 2);
        // By the other set the name is cleared without a fault: held is what ends like that, not like this set's end.
        due(1, x.other(2));
        due(1, x.other(1));
        due(3, x.other(0));
        due(5, x.ends(1));
        due(1, x.proof(1));
        due(0, x.proof(2));
    }

    private void run() {
        doc.promise(23);
        TrainDescriber x = doc.says("A RUN of the TAPE, which is empty then, kept as the latest: how many EVENTS.");
        Check.rules(x, "step 0 to 1 at drop 1");
        x.interpose(0, 0, 5);
        due(1, Check.run(x, 1));
        due(0, x.count(7));
        due(0, x.status());
        due(5, x.ends(1));
        due(2, Check.run(x, 3, 2));
        due(0, x.ends(1));
        due(5, x.ends(0));
        due(0, x.fails(1, 0));
        Check.tape(x, row(60));
        due(60, x.run());
        due(0, x.fails(59, 0));

        TrainDescriber y = doc.says("-6 (no EVENT, more than 60).");
        Check.rules(y, "step 0 to 1 at drop 1");
        y.interpose(0, 0, 5);
        Check.run(y, 1);
        due(-6, y.run());
        due(-6, y.status());
        Check.tape(y, row(61));
        due(-6, y.run());
        due(-6, y.status());
        due(0, y.count(7));
        Check.tape(y, row(200));
        due(-6, y.run());
        Check.tape(y, 0, 99);
        due(-6, y.run());
        due(0, y.count(7));
        // The latest is the one before.
        due(5, y.ends(1));
        due(1, y.fails(0, 0));
        due(-1, y.fails(1, 0));
    }

    private void ends() {
        doc.promise(24);
        TrainDescriber x = doc.says("The NAME in a BERTH at the end of the latest RUN without FAULTS.");
        ran(x, "step 0 to 11 at drop 1", names(999, 1), 1);
        due(0, x.ends(0));
        due(1, x.ends(1));
        due(999, x.ends(11));
        x.cancel(0, 0);
        x.interpose(0, 5, 7);
        due(999, x.ends(11));
        due(0, x.ends(5));

        TrainDescriber y = doc.says("NONE.");
        due(-1, y.ends(0));
        due(-1, y.ends(11));
        y.run();
        due(-1, y.ends(0));
        Check.run(y, 1);
        for (int b : new int[] {-1, 12, MIN, MAX}) {
            due(-1, y.ends(b));
        }
        due(0, y.ends(0));
    }

    private void proof() {
        doc.promise(25);
        TrainDescriber x = doc.says("Of the latest RUN (by the set in USE then): how many FAULTS are HELD (what 0),"
                + " SHIFTED (1), LOST (2),");
        Check.rules(x, "clear 0 at drop 1");
        x.use(1);
        ran(x, "step 0 to 1 at drop 1; clear 2 at drop 2", names(5, 0, 6), 3, 1, 2);
        // 3: held thrice; 1 missing is shifted, 2 missing is lost, their bobs and 1 late are held.
        due(6, x.proof(0));
        due(1, x.proof(1));
        due(1, x.proof(2));
        x.use(0);
        due(1, x.proof(1));

        TrainDescriber y = doc.says("the first that is not HELD, as 3 times its EVENT and its kind (3; by EVENTS, then"
                + " kinds; NONE without).");
        due(-1, ran(y, "clear 0 at drop 1", names(), 1, 2, 3).proof(3));
        due(0, ran(new TrainDescriber(), "clear 0 at drop 1", names(5), 1, 2, 3).proof(3));
        due(6, ran(new TrainDescriber(), "clear 0 at drop 1", names(5), 2, 3, 1).proof(3));
        // The bob of the first event ahead of the second one missing; 1 is repeated without a fault.
        TrainDescriber z = new TrainDescriber();
        z.event(0, 1, 1);
        due(1, ran(z, "step 0 to 1 at drop 1; clear 5 at drop 2", names(5, 0, 0, 0, 0, 6), 1, 2).proof(3));
        // Late alone: missing and bobbing, the first event does nothing either.
        due(2, ran(new TrainDescriber(), "clear 0 at drop 1 if track 2", names(5), 1, 2).proof(3));
        TrainDescriber longer = ran(new TrainDescriber(), "clear 0 at drop 1 if track 2", names(5), 9, 1, 2);
        due(5, longer.proof(3));
        // None by a shorter run behind it, of which the last event can't be late.
        Check.run(longer, 9, 1);
        due(-1, longer.proof(3));
        due(5, longer.proof(0));

        TrainDescriber w = doc.says("NONE.");
        due(-1, w.proof(0));
        due(-1, w.proof(3));
        Check.run(w, 1);
        for (int what : new int[] {-1, 4, MIN, MAX}) {
            due(-1, w.proof(what));
        }
        due(2, w.proof(0));
        ran(w, "clear 0 at drop 1", names(5), 1);
        due(0, w.proof(3));
        due(-1, w.proof(4));
    }

    private void fails() {
        doc.promise(26);
        TrainDescriber x = doc.says("What becomes of a FAULT in the latest RUN: 0 HELD, 1 SHIFTED, 2 LOST.");
        ran(x, "step 0 to 1 at drop 1; clear 2 at drop 2", names(5, 0, 6), 3, 1, 2);
        int[][] want = {{0, 0, 0}, {1, 0, 0}, {2, 0, -1}};
        for (int i = 0; i < 3; i++) {
            for (int kind = 0; kind < 3; kind++) {
                due(want[i][kind], x.fails(i, kind));
            }
        }

        TrainDescriber y = doc.says("NONE.");
        due(-1, y.fails(0, 0));
        Check.tape(y, row(60));
        y.run();
        due(0, y.fails(59, 1));
        due(0, y.fails(58, 2));
        int[][] wrong = {{59, 2}, {60, 0}, {-1, 0}, {0, -1}, {0, 3}, {MIN, 0}, {MAX, 0}, {0, MIN}, {0, MAX}};
        for (int[] w : wrong) {
            due(-1, y.fails(w[0], w[1]));
        }
        Check.run(y, 1, 2);
        due(-1, y.fails(2, 0));
        due(0, y.fails(1, 0));
    }

    private void swaps() {
        doc.promise(27);
        TrainDescriber x = doc.says("How many FAULTS of the latest RUN are SWAPS (what 0), the i-th of them, as 3 times"
                + " its EVENT and its kind (1).");
        ran(x, "step 0 to 2 at drop 1; step 1 to 0 at drop 1; step 2 to 1 at drop 1", names(5, 6), 9, 1);
        // 1 missing, and 1 that bobs, leave both where they were.
        due(2, x.swaps(0, 0));
        due(3, x.swaps(1, 0));
        due(4, x.swaps(1, 1));
        Check.run(x, 1, 9);
        due(0, x.swaps(1, 0));
        due(1, x.swaps(1, 1));
        Check.run(x, 9);
        due(0, x.swaps(0, 0));
        // Of how many there are i tells nothing.
        due(0, x.swaps(0, -1));
        // One that was late in a longer run before is none of a shorter one.
        TrainDescriber longer = ran(new TrainDescriber(), FIRST_COME, names(5, 6), 1, 2);
        due(2, longer.swaps(1, 0));
        Check.run(longer, 1);
        due(0, longer.swaps(0, 0));
        due(-1, longer.swaps(1, 0));

        TrainDescriber y = doc.says("NONE.");
        due(-1, y.swaps(0, 0));
        due(-1, y.swaps(1, 0));
        ran(y, FIRST_COME, names(5, 6), 1, 2);
        int[][] wrong = {{1, 1}, {1, -1}, {-1, 0}, {2, 0}, {1, MIN}, {1, MAX}, {MIN, 0}, {MAX, 0}};
        for (int[] w : wrong) {
            due(-1, y.swaps(w[0], w[1]));
        }
        due(2, y.swaps(1, 0));
    }

    private void two() {
        doc.promise(28);
        TrainDescriber x = doc.says("TWO of the latest RUN: how many are HELD (what 0), SHIFTED (1), LOST (2), HIDDEN"
                + " (3),");
        Check.tape(x, row(60));
        x.run();
        due(1770, x.two(0));
        due(0, x.two(1));
        due(0, x.two(2));
        due(0, x.two(3));
        ran(x, "clear 0 at drop 1; clear 0 at drop 2; step 3 to 4 at drop 3", names(5, 0, 0, 6), 1, 2, 3);
        due(0, x.two(0));
        due(2, x.two(1));
        due(1, x.two(2));
        due(1, x.two(3));
        Check.run(x, 1);
        for (int what = 0; what < 4; what++) {
            due(0, x.two(what));
        }

        TrainDescriber y = doc.says("the first HIDDEN one, as 60 times its first EVENT and its second (4; NONE without).");
        ran(y, "clear 0 at drop 1; clear 0 at drop 2; clear 3 at drop 3; clear 3 at drop 4", names(5, 0, 0, 6),
                9, 3, 1, 2, 4);
        // 3 with 4 is by its first event ahead of 1 with 2.
        due(64, y.two(4));
        due(2, y.two(3));
        Check.run(y, 9, 3, 4);
        due(62, y.two(4));
        Check.run(y, 3, 4);
        due(1, y.two(4));
        Check.run(y, 9, 8);
        due(-1, y.two(4));
        Check.run(y, 9);
        due(-1, y.two(4));
        int[] far = new int[120];
        for (int i = 0; i < 60; i++) {
            far[2 * i + 1] = i == 58 ? 131 : i == 59 ? 132 : 15;
        }
        Check.tape(y, far);
        y.run();
        due(60 * 58 + 59, y.two(4));

        TrainDescriber z = doc.says("NONE.");
        for (int what = 0; what < 5; what++) {
            due(-1, z.two(what));
        }
        Check.run(z, 1, 2);
        for (int what : new int[] {-1, 5, MIN, MAX}) {
            due(-1, z.two(what));
        }
        due(1, z.two(0));
    }

    private void watch() {
        doc.promise(29);
        TrainDescriber x = doc.says("WATCH of the latest RUN: BERTHS as bits.");
        ran(x, "clear 0 at drop 1; clear 11 at drop 2", names(5, 0, 0, 0, 0, 0, 0, 0, 0, 0, 0, 6), 1, 2);
        due(1 + 2048, x.watch());
        due(1 + 2048, x.watch());
        Check.run(x, 2);
        due(2048, x.watch());
        Check.run(x, 3);
        due(0, x.watch());
        TrainDescriber longer = ran(new TrainDescriber(), "clear 0 at drop 1 if track 2", names(5), 1, 2);
        due(1, longer.watch());
        Check.run(longer, 1);
        due(0, longer.watch());

        TrainDescriber y = doc.says("NONE.");
        due(-1, y.watch());
        y.run();
        due(-1, y.watch());
    }

    private void other() {
        doc.promise(30);
        TrainDescriber x = doc.says("The latest RUN by the OTHER set: how many FAULTS are HELD (what 0), SHIFTED (1),"
                + " LOST (2),");
        x.use(1);
        Check.rules(x, "step 0 to 1 at drop 1; clear 2 at drop 2");
        x.use(0);
        ran(x, "clear 7 at drop 1", names(5, 0, 6), 3, 1, 2);
        due(6, x.other(0));
        due(1, x.other(1));
        due(1, x.other(2));
        due(8, x.proof(0));
        // The other one is the other of the set that was in use, whatever is in use now.
        x.use(1);
        due(1, x.other(1));
        Check.run(x, 3, 1, 2);
        due(0, x.other(1));
        due(8, x.other(0));

        TrainDescriber y = doc.says("LOST by this and not by the OTHER (3), LOST by the OTHER and not by this (4),");
        y.use(1);
        Check.rules(y, "clear 0 at drop 1; clear 2 at drop 2");
        y.use(0);
        ran(y, "clear 0 at drop 1; step 2 to 3 at drop 2; clear 4 at drop 4; clear 5 at drop 5",
                names(5, 0, 6, 0, 7, 8), 1, 2, 4, 5);
        due(2, y.other(3));
        due(1, y.other(4));
        y.use(1);
        Check.run(y, 1, 2, 4, 5);
        due(1, y.other(3));
        due(2, y.other(4));
        // Late alone, in a run before a shorter one.
        TrainDescriber longer = ran(new TrainDescriber(), "clear 0 at drop 1 if track 2", names(5), 1, 2);
        due(1, longer.other(3));
        Check.run(longer, 1);
        due(0, longer.other(3));
        due(0, longer.other(4));
        // The first fault of all.
        Check.run(y, 2);
        due(1, y.other(3));
        due(0, y.other(4));
        y.use(0);
        Check.run(y, 2);
        due(0, y.other(3));
        due(1, y.other(4));

        TrainDescriber z = doc.says("whether all BERTHS end alike by both without a FAULT: 1, 0 (5).");
        Check.run(z, 1);
        due(1, z.other(5));
        ran(z, "clear 11 at drop 1", names(5, 0, 0, 0, 0, 0, 0, 0, 0, 0, 0, 6), 1);
        due(0, z.other(5));
        Check.run(z, 2);
        due(1, z.other(5));
        // Alike at the end, though by other faults otherwise.
        z.use(1);
        Check.rules(z, "clear 11 at drop 2");
        Check.run(z, 1, 2);
        due(1, z.other(5));
        due(1, z.other(3));

        TrainDescriber w = doc.says("NONE.");
        for (int what = 0; what < 6; what++) {
            due(-1, w.other(what));
        }
        Check.run(w, 1);
        for (int what : new int[] {-1, 6, MIN, MAX}) {
            due(-1, w.other(what));
        }
        due(2, w.other(0));
    }
}
