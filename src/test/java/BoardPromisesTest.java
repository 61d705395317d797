/** Promises 1 to 17: what stands, events, names put by hand, the log. */
public final class BoardPromisesTest {
    private static final int MIN = Integer.MIN_VALUE;
    private static final int MAX = Integer.MAX_VALUE;
    private static final Check CHECK = new Check("promises 1 to 17");

    public static void main(String[] args) {
        newObject();
        lies();
        signal();
        event();
        clauseOrder();
        overrun();
        interpose();
        cancel();
        split();
        join();
        kin();
        work();
        trespass();
        berth();
        trackAndSince();
        came();
        held();
        log();
        CHECK.end();
    }

    private static void due(String call, long want, long got) {
        CHECK.due(call, want, got);
    }

    private static void newObject() {
        TrainDescriber x = new TrainDescriber();
        for (int t = 0; t < 16; t++) {
            due("1 track", 0, x.track(t));
            due("1 since", 0, x.since(t));
        }
        for (int b = 0; b < 12; b++) {
            due("1 name", 0, x.berth(b, 0));
            due("1 track of a berth", -1, x.berth(b, 1));
            due("1 bad", 0, x.berth(b, 2));
            due("1 station", -1, x.station(b, -1));
        }
        for (int s = 0; s < 8; s++) {
            due("1 signal", 0, x.signal(s, 0));
        }
        for (int what = 0; what < 12; what++) {
            due("1 count", 0, x.count(what));
        }
        due("1 status", 0, new TrainDescriber().status());
        due("1 fault", -1, x.fault());
        due("1 NONE", -1, TrainDescriber.NONE);
    }

    private static void lies() {
        TrainDescriber x = new TrainDescriber();
        due("2 first", -1, x.lies(11, 15));
        due("2 status", 0, x.status());
        due("2 was", 15, x.lies(11, 0));
        due("2 was", 0, x.lies(11, -1));
        due("2 none", -1, x.berth(11, 1));
        int[][] wrong = {{-1, 0}, {12, 0}, {0, -2}, {0, 16}, {MIN, MIN}, {MAX, MAX}};
        for (int[] w : wrong) {
            x.lies(0, 3);
            due("2 wrong", -1, x.lies(w[0], w[1]));
            due("2 wrong status", -1, x.status());
            due("2 stays", 3, x.berth(0, 1));
        }
    }

    private static void signal() {
        TrainDescriber x = new TrainDescriber();
        due("3 first", 0, x.signal(7, 1));
        due("3 was", 1, x.signal(7, 1));
        due("3 other", 0, x.signal(6, 1));
        due("3 was", 1, x.signal(7, 0));
        due("3 was", 0, x.signal(7, 0));
        due("3 other stays", 1, x.signal(6, 1));
        int[][] wrong = {{-1, 0}, {8, 0}, {0, -1}, {0, 2}, {MIN, 0}, {0, MAX}};
        for (int[] w : wrong) {
            due("3 wrong", -1, x.signal(w[0], w[1]));
            due("3 status", -1, x.status());
        }
        due("3 good again", 1, x.signal(6, 0));
        due("3 status", 0, x.status());
    }

    private static void event() {
        TrainDescriber x = new TrainDescriber();
        due("4 rules", 3, Check.rules(x, "step 0 to 1 at drop 1; clear 1 at pick 1;step 3 to 3 at drop 1"));
        x.interpose(0, 0, 5);
        x.interpose(0, 3, 6);
        due("4 moved, the same berth nothing", 1, x.event(3, 1, 1));
        due("4 name", 5, x.berth(1, 0));
        due("4 stays", 6, x.berth(3, 0));
        due("4 repeated", 0, x.event(4, 1, 1));
        due("4 latest minute by a repeated one", 4, x.count(8));
        due("4 ahead", -3, x.event(3, 2, 1));
        due("4 status", -3, x.status());
        due("4 nothing by a refused one", 0, x.track(2));
        due("4 cleared", 1, x.event(4, 1, 0));
        due("4 cleared kind", 1, x.log(0, 1));
        due("4 cleared from", 1, x.log(0, 2));
        due("4 cleared to", -1, x.log(0, 3));
        due("4 picked again", 0, x.event(9999, 1, 0));
        int[][] wrong = {{-1, 0, 0}, {10000, 0, 0}, {9999, -1, 0}, {9999, 16, 0}, {9999, 0, 2}, {9999, 0, -1},
            {0, 16, 0}, {MIN, MAX, MIN}};
        for (int[] w : wrong) {
            due("4 wrong", -1, x.event(w[0], w[1], w[2]));
            due("4 status", -1, x.status());
        }
    }

    private static void clauseOrder() {
        TrainDescriber x = new TrainDescriber();
        // Each test is looked at at its turn: the second clause sees what the first one did, and the track itself.
        Check.rules(x, "step 0 to 1 at drop 1 if track 1; step 1 to 2 at drop 1 if not full 0 and full 1;"
                + "clear 4 at drop 1 if full 1 or track 2");
        x.interpose(0, 0, 5);
        x.interpose(0, 4, 9);
        due("4 two moves of one name", 2, x.event(1, 1, 1));
        due("4 came to 2", 5, x.berth(2, 0));
        due("4 not cleared", 9, x.berth(4, 0));
        due("4 log", 1, x.log(0, 2));
        due("4 log", 0, x.log(1, 2));
        Check.rules(x, "clear 2 at drop 3 if signal 7 and not (signal 0 or track 9); clear 4 at drop 3 if not not signal 7");
        x.event(2, 3, 1);
        due("4 signal on", 5, x.berth(2, 0));
        x.event(2, 3, 0);
        x.signal(7, 1);
        due("4 signal off", 2, x.event(2, 3, 1));
        due("4 no rule by a pick", 0, x.event(3, 3, 0));
        x.use(1);
        x.interpose(3, 0, 5);
        due("4 no rules in the other set", 0, x.event(3, 3, 1));
    }

    private static void overrun() {
        TrainDescriber x = new TrainDescriber();
        Check.rules(x, "step 0 to 1 at drop 1");
        x.interpose(0, 0, 5);
        x.interpose(0, 1, 6);
        due("4 overrun is not counted", 1, x.event(7, 1, 1));
        due("4 now", 5, x.berth(1, 0));
        due("4 gone", 0, x.berth(0, 0));
        int[][] rows = {{7, 0, 0, 1, 5}, {7, 4, 1, -1, 6}, {0, 2, -1, 1, 6}};
        for (int i = 0; i < 3; i++) {
            for (int what = 0; what < 5; what++) {
                due("17 log " + i + " " + what, rows[i][what], x.log(i, what));
            }
        }
    }

    private static void interpose() {
        TrainDescriber x = new TrainDescriber();
        due("5 empty", 0, x.interpose(5, 11, 999));
        due("5 stood", 999, x.interpose(5, 11, 1));
        due("5 same name", 1, x.interpose(5, 11, 1));
        due("5 log of all", 5, x.count(2));
        due("5 overrun", 4, x.log(1, 1));
        due("5 overrun from", 11, x.log(1, 2));
        due("5 overrun to", -1, x.log(1, 3));
        due("5 from", -1, x.log(0, 2));
        due("5 to", 11, x.log(0, 3));
        due("5 ahead", -3, x.interpose(4, 0, 1));
        due("5 status", -3, x.status());
        int[][] wrong = {{-1, 0, 1}, {10000, 0, 1}, {6, -1, 1}, {6, 12, 1}, {6, 0, 0}, {6, 0, 1000}, {4, 0, 0}};
        for (int[] w : wrong) {
            due("5 wrong", -1, x.interpose(w[0], w[1], w[2]));
            due("5 status", -1, x.status());
        }
        due("5 minute stays", 5, x.count(8));
    }

    private static void cancel() {
        TrainDescriber x = new TrainDescriber();
        x.interpose(5, 2, 77);
        due("6 none there", -3, x.cancel(9, 3));
        due("6 status", -3, x.status());
        due("6 minute stays", 5, x.count(8));
        due("6 ahead", -3, x.cancel(4, 2));
        due("6 wrong", -1, x.cancel(4, 12));
        due("6 wrong", -1, x.cancel(10000, 2));
        due("6 wrong", -1, x.cancel(-1, -1));
        due("6 it", 77, x.cancel(6, 2));
        due("6 gone", 0, x.berth(2, 0));
        int[] row = {6, 3, 2, -1, 77};
        for (int what = 0; what < 5; what++) {
            due("6 log", row[what], x.log(0, what));
        }
        due("6 twice", -3, x.cancel(6, 2));
    }

    private static void split() {
        TrainDescriber x = new TrainDescriber();
        x.interpose(5, 2, 77);
        x.interpose(5, 4, 78);
        due("7 none there", -3, x.split(5, 1, 3, 9));
        due("7 one at the other", -3, x.split(5, 2, 4, 9));
        due("7 the same berth", -3, x.split(5, 2, 2, 9));
        due("7 ahead", -3, x.split(4, 2, 3, 9));
        int[][] wrong = {{-1, 2, 3, 9}, {10000, 2, 3, 9}, {5, -1, 3, 9}, {5, 12, 3, 9}, {5, 2, -1, 9}, {5, 2, 12, 9},
            {5, 2, 3, 0}, {5, 2, 3, 1000}};
        for (int[] w : wrong) {
            due("7 wrong", -1, x.split(w[0], w[1], w[2], w[3]));
            due("7 status", -1, x.status());
        }
        due("7 nothing yet", 2, x.count(2));
        due("7 other part", 77, x.split(6, 2, 3, 9));
        due("7 stays", 77, x.berth(2, 0));
        due("7 new", 9, x.berth(3, 0));
        int[] row = {6, 6, 2, 3, 9};
        for (int what = 0; what < 5; what++) {
            due("7 log", row[what], x.log(0, what));
        }
        due("7 minute", 6, x.count(8));
    }

    private static void join() {
        TrainDescriber x = new TrainDescriber();
        x.interpose(5, 2, 77);
        x.interpose(5, 4, 78);
        due("8 none at the first", -3, x.join(5, 1, 4));
        due("8 none at the other", -3, x.join(5, 2, 1));
        due("8 ahead", -3, x.join(4, 2, 4));
        due("8 same", -1, x.join(5, 2, 2));
        int[][] wrong = {{-1, 2, 4}, {10000, 2, 4}, {5, -1, 4}, {5, 12, 4}, {5, 2, -1}, {5, 2, 12}, {4, 1, 1}};
        for (int[] w : wrong) {
            due("8 wrong", -1, x.join(w[0], w[1], w[2]));
            due("8 status", -1, x.status());
        }
        due("8 it", 77, x.join(8, 2, 4));
        due("8 gone", 0, x.berth(2, 0));
        due("8 stays", 78, x.berth(4, 0));
        int[] row = {8, 7, 2, 4, 77};
        for (int what = 0; what < 5; what++) {
            due("8 log", row[what], x.log(0, what));
        }
    }

    private static void kin() {
        TrainDescriber x = new TrainDescriber();
        x.interpose(0, 0, 999);
        x.split(0, 0, 1, 1);
        x.image(0);
        x.interpose(0, 2, 500);
        x.cancel(0, 1);
        x.split(0, 2, 1, 1);
        due("9 latest split", 500, x.kin(1, 0));
        due("9 none", 0, x.kin(1, 1));
        due("9 none", 0, x.kin(999, 0));
        x.join(0, 1, 0);
        due("9 joined", 999, x.kin(1, 1));
        x.interpose(0, 3, 1);
        x.join(0, 3, 2);
        due("9 joined latest", 500, x.kin(1, 1));
        x.back(0);
        due("9 an image keeps it", 999, x.kin(1, 0));
        due("9 an image keeps it", 0, x.kin(1, 1));
        int[][] wrong = {{0, 0}, {1000, 0}, {1, -1}, {1, 2}, {MIN, 0}, {MAX, 1}};
        for (int[] w : wrong) {
            due("9 wrong", -1, x.kin(w[0], w[1]));
        }
    }

    private static void work() {
        TrainDescriber x = new TrainDescriber();
        due("10 first", 1, x.work(3, 5, 9));
        int[][] wrong = {{-1, 0, 1}, {12, 0, 1}, {0, -1, 1}, {0, 0, 10000}, {0, 2, 1}, {0, 10000, 10000}};
        for (int[] w : wrong) {
            due("10 wrong", -1, x.work(w[0], w[1], w[2]));
            due("10 status", -1, x.status());
        }
        due("11 before", 0, x.closed(3, 4));
        due("11 from", 1, x.closed(3, 5));
        due("11 to", 1, x.closed(3, 9));
        due("11 behind", 0, x.closed(3, 10));
        due("11 other", 0, x.closed(2, 5));
        due("10 one minute", 2, x.work(0, 9999, 9999));
        due("11 one minute", 1, x.closed(0, 9999));
        due("11 one minute", 0, x.closed(0, 9998));
        for (int i = 3; i <= 8; i++) {
            due("10 more", i, x.work(3, 5, 9));
        }
        due("10 no room", -5, x.work(3, 5, 9));
        due("10 status", -5, x.status());
        due("10 wrong ahead of no room", -1, x.work(3, 9, 5));
        due("55 works", 8, x.count(10));
        due("11 wrong", -1, x.closed(-1, 0));
        due("11 wrong", -1, x.closed(12, 0));
        due("11 wrong", -1, x.closed(0, -1));
        due("11 wrong", -1, x.closed(0, 10000));
    }

    private static void trespass() {
        TrainDescriber x = new TrainDescriber();
        x.work(1, 2, 4);
        x.work(1, 4, 8);
        Check.rules(x, "step 0 to 1 at drop 1");
        x.interpose(1, 1, 9);
        due("11 too early", 0, x.count(11));
        x.interpose(2, 1, 9);
        due("11 interposed", 1, x.count(11));
        x.interpose(4, 0, 8);
        due("11 another berth", 1, x.count(11));
        x.event(4, 1, 1);
        due("11 moved, closed twice, once counted", 2, x.count(11));
        x.cancel(4, 1);
        due("11 cancelled", 2, x.count(11));
        x.interpose(4, 0, 8);
        x.split(8, 0, 1, 7);
        due("11 split", 3, x.count(11));
        x.join(8, 0, 1);
        due("11 joined does not come", 3, x.count(11));
        x.bad(1, 1);
        x.forget(8);
        due("11 forgotten does not come", 3, x.count(11));
        x.word(0, 8, 1, 0);
        due("11 a word", 4, x.count(11));
        x.interpose(9, 1, 9);
        due("11 too late", 4, x.count(11));
    }

    private static void berth() {
        TrainDescriber x = new TrainDescriber();
        x.interpose(0, 11, 999);
        x.lies(11, 15);
        x.bad(11, 1023);
        due("12 name", 999, x.berth(11, 0));
        due("12 track", 15, x.berth(11, 1));
        due("12 bad", 1023, x.berth(11, 2));
        int[][] wrong = {{-1, 0}, {12, 0}, {11, -1}, {11, 3}, {MIN, MIN}, {MAX, MAX}};
        for (int[] w : wrong) {
            due("12 wrong", -1, x.berth(w[0], w[1]));
        }
    }

    private static void trackAndSince() {
        TrainDescriber x = new TrainDescriber();
        x.event(5, 15, 1);
        due("13 occupied", 1, x.track(15));
        due("14 since", 5, x.since(15));
        x.event(7, 15, 1);
        due("14 a repeated one changes nothing", 5, x.since(15));
        x.event(8, 15, 0);
        due("13 clear", 0, x.track(15));
        due("14 since", 8, x.since(15));
        x.event(9, 14, 0);
        due("14 always", 0, x.since(14));
        for (int t : new int[] {-1, 16, MIN, MAX}) {
            due("13 wrong", -1, x.track(t));
            due("14 wrong", -1, x.since(t));
        }
    }

    private static void came() {
        TrainDescriber x = new TrainDescriber();
        for (int i = 0; i < 60; i++) {
            x.event(i, i % 16, i % 3 == 0 ? 1 : 0);
        }
        TrainDescriber y = new TrainDescriber();
        int[] stands = new int[16];
        for (int i = 0; i < 60; i++) {
            int drops = i % 3 == 0 ? 1 : 0;
            boolean again = stands[i % 16] == drops;
            stands[i % 16] = drops;
            if (i >= 10) {
                due("15 minute", i, x.came(59 - i, 0));
                due("15 track", i % 16, x.came(59 - i, 1));
                due("15 drops", drops, x.came(59 - i, 2));
                due("15 repeated", again ? 1 : 0, x.came(59 - i, 3));
            }
        }
        due("15 fifty are kept", -1, x.came(50, 0));
        due("15 what", -1, x.came(0, 4));
        due("15 what", -1, x.came(0, -1));
        due("15 i", -1, x.came(-1, 0));
        due("15 i", -1, x.came(MAX, 0));
        due("15 i", -1, x.came(MIN, 0));
        due("15 none", -1, y.came(0, 0));
    }

    private static void held() {
        TrainDescriber x = new TrainDescriber();
        x.event(10, 3, 1);
        x.event(12, 15, 1);
        x.event(13, 4, 1);
        x.event(14, 4, 0);
        due("16 longer", 2, x.held(20, 7, -1));
        due("16 just as long", 1, x.held(20, 8, -1));
        due("16 none", 0, x.held(20, 10, -1));
        due("16 a minute before", 0, x.held(9, 0, -1));
        due("16 that one", 1, x.held(20, 8, 3));
        due("16 not that", 0, x.held(20, 8, 15));
        due("16 that one", 1, x.held(20, 7, 15));
        due("16 a clear one", 0, x.held(20, 0, 4));
        due("16 edges", 0, x.held(9999, 9999, -1));
        x.event(15, 0, 1);
        due("16 track 0", 1, x.held(17, 1, 0));
        due("16 track 0", 3, x.held(17, 1, -1));
        int[][] wrong = {{-1, 0, -1}, {10000, 0, -1}, {0, -1, -1}, {0, 10000, -1}, {0, 0, -2}, {0, 0, 16}, {0, 0, MIN}};
        for (int[] w : wrong) {
            due("16 wrong", -1, x.held(w[0], w[1], w[2]));
        }
    }

    private static void log() {
        TrainDescriber x = new TrainDescriber();
        for (int i = 1; i <= 130; i++) {
            x.interpose(i, 0, i);
        }
        due("17 in the log", 100, x.count(1));
        due("17 ever", 259, x.count(2));
        for (int i = 0; i < 100; i += 2) {
            due("17 minute", 130 - i / 2, x.log(i, 0));
            due("17 kind", 2, x.log(i, 1));
            due("17 name", 130 - i / 2, x.log(i, 4));
            due("17 overrun name", 129 - i / 2, x.log(i + 1, 4));
        }
        due("17 a hundred", -1, x.log(100, 0));
        due("17 i", -1, x.log(-1, 0));
        due("17 i", -1, x.log(MAX, 0));
        due("17 what", -1, x.log(0, -1));
        due("17 what", -1, x.log(0, 5));
    }
}
