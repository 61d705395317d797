/** Promises 38 to 52: the timetable, where names were and are, boxes, the drum, alarms. */
public final class NamesPromisesTest {
    private static final int MIN = Integer.MIN_VALUE;
    private static final int MAX = Integer.MAX_VALUE;
    private static final Check CHECK = new Check("promises 38 to 52");

    public static void main(String[] args) {
        dueRows();
        delay();
        stationAndPlatform();
        way();
        truth();
        found();
        foundByKinds();
        lost();
        clockAndCode();
        word();
        badAndForget();
        could();
        alarms();
        CHECK.end();
    }

    private static void due(String call, long want, long got) {
        CHECK.due(call, want, got);
    }

    private static void dueRows() {
        TrainDescriber x = new TrainDescriber();
        int[][] wrong = {{0, 0, 0}, {1000, 0, 0}, {1, -1, 0}, {1, 12, 0}, {1, 0, -1}, {1, 0, 10000}};
        for (int[] w : wrong) {
            due("38 wrong", -1, x.due(w[0], w[1], w[2]));
            due("38 status", -1, x.status());
        }
        for (int i = 1; i <= 40; i++) {
            due("38", i, x.due(i % 2 == 0 ? 999 : 1, i % 12, 9999));
        }
        due("38 no room", -5, x.due(1, 0, 0));
        due("38 status", -5, x.status());
        due("38 wrong ahead", -1, x.due(0, 0, 0));
        due("55 rows", 40, x.count(6));
    }

    private static void delay() {
        TrainDescriber x = new TrainDescriber();
        due("39 nothing", -100000, x.delay(5));
        for (int name : new int[] {0, -1, 1000, MIN, MAX}) {
            due("39 no name", -100000, x.delay(name));
        }
        x.interpose(20, 3, 5);
        due("39 not due", -100000, x.delay(5));
        x.due(5, 4, 20);
        due("39 due elsewhere", -100000, x.delay(5));
        x.due(6, 3, 20);
        due("39 another is due", -100000, x.delay(5));
        x.due(5, 3, 30);
        due("39 early", -10, x.delay(5));
        x.due(5, 3, 10);
        due("39 of two the earlier minute", 10, x.delay(5));
        x.due(5, 3, 29);
        due("39 the next to it", -9, x.delay(5));
        x.due(5, 3, 20);
        due("39 just in time", 0, x.delay(5));
        Check.rules(x, "step 3 to 4 at drop 1; step 4 to 5 at drop 2");
        x.event(25, 1, 1);
        due("39 the latest", 5, x.delay(5));
        x.event(40, 2, 1);
        due("39 where it is not due", 5, x.delay(5));
        x.cancel(41, 5);
        due("39 though it is gone", 5, x.delay(5));
        x.interpose(50, 9, 3);
        x.due(3, 9, 40);
        x.due(3, 9, 60);
        due("39 of two the earlier minute, though told first", 10, x.delay(3));
        x.due(3, 9, 55);
        x.due(3, 9, 30);
        due("39 an earlier one that is farther", -5, x.delay(3));
        // A name of a split does not count for the delay.
        x.interpose(50, 0, 7);
        x.due(8, 1, 50);
        x.split(50, 0, 1, 8);
        due("39 split", -100000, x.delay(8));
        x.due(8, 0, 44);
        x.join(51, 1, 0);
        due("39 joined", -100000, x.delay(8));
    }

    private static void stationAndPlatform() {
        TrainDescriber x = new TrainDescriber();
        due("40 none at first", -1, x.station(0, 5));
        due("40 was", 5, x.station(0, 0));
        due("40 was", 0, x.station(0, -1));
        due("40 status", 0, x.status());
        due("40 was", -1, x.station(0, 0));
        int[][] wrong = {{-1, 0}, {12, 0}, {0, -2}, {0, 6}, {MIN, 0}, {0, MAX}};
        for (int[] w : wrong) {
            due("40 wrong", -1, x.station(w[0], w[1]));
            due("40 status", -1, x.status());
        }
        x.station(1, 0);
        x.station(2, 0);
        x.station(3, 1);
        x.interpose(20, 0, 5);
        due("41 not due", -1, x.platform(5));
        x.due(5, 3, 20);
        due("41 due in another station", -1, x.platform(5));
        x.due(5, 4, 20);
        x.interpose(20, 5, 5);
        due("41 no station is none", -1, x.platform(5));
        x.due(5, 1, 25);
        due("41", 1, x.platform(5));
        x.due(5, 2, 15);
        due("41 of two the earlier told", 1, x.platform(5));
        x.due(5, 0, 24);
        due("41 the next by minutes", 0, x.platform(5));
        x.interpose(30, 3, 5);
        due("41 the latest", 3, x.platform(5));
        x.station(3, -1);
        due("41 no more of that station", 0, x.platform(5));
        x.split(30, 0, 2, 9);
        x.due(9, 1, 90);
        due("41 a split comes too", 1, x.platform(9));
        x.due(7, 1, 30);
        due("41 never came", -1, x.platform(7));
        for (int name : new int[] {0, -1, 1000, MIN, MAX}) {
            due("41 no name", -1, x.platform(name));
        }
    }

    private static void way() {
        TrainDescriber x = new TrainDescriber();
        Check.rules(x, "step 3 to 4 at drop 1; step 4 to 3 at pick 1");
        due("42 none", 0, x.way(5, -1));
        x.interpose(0, 3, 5);
        x.event(0, 1, 1);
        x.event(0, 1, 0);
        x.split(0, 3, 9, 6);
        x.cancel(0, 3);
        x.interpose(0, 11, 5);
        int[] way = {3, 4, 3, 11};
        due("42 how many", 4, x.way(5, -1));
        for (int i = 0; i < 4; i++) {
            due("42", way[i], x.way(5, i));
        }
        due("42 beyond", -1, x.way(5, 4));
        due("42 no such", -1, x.way(5, -2));
        due("42 no such", -1, x.way(5, MIN));
        due("42 split", 1, x.way(6, -1));
        due("42 split", 9, x.way(6, 0));
        due("42 no name", -1, x.way(0, -1));
        due("42 no name", -1, x.way(1000, -1));
        for (int i = 0; i < 99; i++) {
            x.interpose(1, 8, 7);
        }
        due("42 what the log has no more", 0, x.way(5, -1));
        due("42 half of the log is overrun", 50, x.way(7, -1));
    }

    private static void truth() {
        TrainDescriber x = new TrainDescriber();
        Check.rules(x, "step 3 to 4 at drop 1");
        due("43 none", -1, x.truth(3, 0));
        x.interpose(4, 3, 5);
        x.event(6, 1, 1);
        int[][] want = {{6, 0, 5}, {6, 0, 5}};
        for (int what = 0; what < 3; what++) {
            due("43 from", want[0][what], x.truth(3, what));
            due("43 to", want[1][what], x.truth(4, what));
        }
        x.interpose(7, 3, 8);
        due("43", 7, x.truth(3, 0));
        due("43", 2, x.truth(3, 1));
        due("43", 8, x.truth(3, 2));
        due("43 the other stays", 6, x.truth(4, 0));
        due("43 none", -1, x.truth(0, 2));
        int[][] wrong = {{-1, 0}, {12, 0}, {3, -1}, {3, 3}, {MIN, 0}, {3, MAX}};
        for (int[] w : wrong) {
            due("43 wrong", -1, x.truth(w[0], w[1]));
        }
    }

    private static void found() {
        TrainDescriber x = new TrainDescriber();
        x.link(0, 1, 3);
        x.link(1, 2, 4);
        x.link(0, 2, 60);
        x.link(2, 0, 0);
        due("44 not in the log", -1, x.found(5, 9));
        x.interpose(10, 0, 5);
        x.interpose(11, 4, 5);
        due("44 where it stands", 17, x.found(5, 9999));
        due("44 where it stands, by any minute", 17, x.found(5, 0));
        x.cancel(12, 4);
        due("44 where it stands", 1, x.found(5, 12));
        x.cancel(20, 0);
        due("44 ahead of that", -1, x.found(5, 19));
        due("44 there", 1, x.found(5, 20));
        due("44 not yet", 1, x.found(5, 22));
        due("44 one link", 3, x.found(5, 23));
        due("44 not yet", 3, x.found(5, 26));
        due("44 two links", 7, x.found(5, 27));
        due("44 all", 7, x.found(5, 9999));
        int[][] wrong = {{0, 20}, {1000, 20}, {5, -1}, {5, 10000}, {MIN, MIN}, {MAX, MAX}};
        for (int[] w : wrong) {
            due("44 wrong", -1, x.found(w[0], w[1]));
        }
    }

    private static void foundByKinds() {
        TrainDescriber x = new TrainDescriber();
        Check.rules(x, "step 0 to 1 at drop 1; clear 1 at pick 1");
        x.interpose(0, 0, 5);
        x.interpose(0, 1, 6);
        x.event(1, 1, 1);
        due("44 overrun", 2, x.found(6, 1));
        x.event(2, 1, 0);
        due("44 cleared", 2, x.found(5, 2));
        x.interpose(3, 7, 9);
        x.bad(7, 8);
        x.forget(4);
        due("44 forgotten", 128, x.found(9, 4));
        due("44 it became another", 128, x.found(1, 4));
        x.interpose(5, 8, 10);
        x.join(6, 8, 7);
        due("44 joined: where it was", 256, x.found(10, 6));
        due("44 joined", -1, x.found(10, 5));
        x.interpose(7, 7, 11);
        due("44 overrun by an interposed one", 128, x.found(1, 7));
    }

    private static void lost() {
        TrainDescriber x = new TrainDescriber();
        x.due(9, 0, 10);
        x.due(5, 0, 20);
        x.due(9, 3, 30);
        x.due(7, 3, 5);
        x.due(7, 3, 5);
        due("45 by then", 1, x.lost(9, 0, 0));
        due("45 in that minute", 2, x.lost(10, 0, 0));
        due("45 all, each once", 3, x.lost(9999, 0, 0));
        due("45 by numbers", 5, x.lost(30, 1, 0));
        due("45 by numbers", 7, x.lost(30, 1, 1));
        due("45 by numbers", 9, x.lost(30, 1, 2));
        due("45 no more", -1, x.lost(30, 1, 3));
        due("45 no such", -1, x.lost(30, 1, -1));
        due("45 i is free", 3, x.lost(30, 0, -7));
        x.interpose(0, 11, 7);
        due("45 it stands anywhere", 2, x.lost(30, 0, 0));
        due("45 it stands anywhere", 9, x.lost(30, 1, 1));
        due("45 none by then", 0, x.lost(4, 0, 0));
        due("45 none by then", -1, x.lost(4, 1, 0));
        int[][] wrong = {{-1, 0, 0}, {10000, 0, 0}, {30, -1, 0}, {30, 2, 0}, {30, 1, MIN}, {30, 1, MAX}};
        for (int[] w : wrong) {
            due("45 wrong", -1, x.lost(w[0], w[1], w[2]));
        }
        TrainDescriber y = new TrainDescriber();
        due("45 no timetable", 0, y.lost(9999, 0, 0));
        for (int i = 0; i < 39; i++) {
            y.due(999 - i, 0, 0);
        }
        y.due(1, 0, 0);
        due("45 forty", 40, y.lost(0, 0, 0));
        due("45 forty", 1, y.lost(0, 1, 0));
        due("45 forty", 961, y.lost(0, 1, 1));
        due("45 forty", 999, y.lost(0, 1, 39));
        due("45 forty", -1, y.lost(0, 1, 40));
    }

    private static void clockAndCode() {
        TrainDescriber x = new TrainDescriber();
        due("46 at first", 0, x.clock(2, -30));
        due("46 was", -30, x.clock(2, 30));
        due("46 status", 0, x.status());
        due("46 was", 30, x.clock(2, 0));
        due("46 no such", -2, x.clock(3, 0));
        due("46 no such", -2, x.clock(-1, 0));
        due("46 status", -2, x.status());
        due("46 wrong", -1, x.clock(0, 31));
        due("46 wrong", -1, x.clock(0, -31));
        due("46 wrong ahead", -1, x.clock(3, MIN));
        due("46 status", -1, x.status());
        due("47 at first", 999, x.code(2, 99, 1));
        due("47 was", 1, x.code(2, 99, 999));
        due("47 another box", 999, x.code(1, 99, 5));
        due("47 another code", 999, x.code(2, 98, 5));
        due("47 no such", -2, x.code(3, 0, 1));
        due("47 no such", -2, x.code(-1, 0, 1));
        due("47 status", -2, x.status());
        int[][] wrong = {{0, -1, 1}, {0, 100, 1}, {0, 0, 0}, {0, 0, 1000}, {3, 0, 0}};
        for (int[] w : wrong) {
            due("47 wrong", -1, x.code(w[0], w[1], w[2]));
            due("47 status", -1, x.status());
        }
    }

    private static void word() {
        TrainDescriber x = new TrainDescriber();
        x.clock(0, 30);
        x.clock(1, -30);
        x.code(0, 7, 555);
        due("48", 555, x.word(0, 40, 4, 7));
        due("48 ours", 10, x.count(8));
        due("48 interposed", 2, x.log(0, 1));
        due("48 there", 4, x.log(0, 3));
        due("48 ours in the log", 10, x.log(0, 0));
        due("48 status", 0, x.status());
        due("48 ahead", -3, x.word(0, 39, 4, 7));
        due("48 status", -3, x.status());
        due("48 not ahead", 999, x.word(0, 40, 4, 8));
        due("48 overrun", 4, x.log(1, 1));
        due("48 ours below 0", -1, x.word(0, 29, 4, 7));
        due("48 status", -1, x.status());
        due("48 ours above 9999", -1, x.word(1, 9970, 4, 7));
        due("48 ours 9999", 999, x.word(1, 9969, 4, 7));
        due("48 no such", -2, x.word(3, 0, 0, 0));
        due("48 no such", -2, x.word(-1, 0, 0, 0));
        int[][] wrong = {{0, -1, 0, 0}, {0, 10000, 0, 0}, {2, 9999, -1, 0}, {2, 9999, 12, 0}, {2, 9999, 0, -1},
            {2, 9999, 0, 100}, {3, 0, 0, 100}, {3, -1, 0, 0}, {1, MIN, 0, 0}, {0, MAX, 0, 0}};
        for (int[] w : wrong) {
            due("48 wrong", -1, x.word(w[0], w[1], w[2], w[3]));
            due("48 status", -1, x.status());
        }
    }

    private static void badAndForget() {
        TrainDescriber x = new TrainDescriber();
        due("49 at first", 0, x.bad(0, 1));
        due("49 was", 1, x.bad(0, 1023));
        due("49 was", 1023, x.bad(0, 0));
        due("49 status", 0, x.status());
        due("49 was", 0, x.bad(0, 4));
        int[][] wrong = {{-1, 0}, {12, 0}, {0, -1}, {0, 1024}, {MIN, MAX}};
        for (int[] w : wrong) {
            due("49 wrong", -1, x.bad(w[0], w[1]));
            due("49 status", -1, x.status());
        }
        x.bad(2, 1023);
        x.bad(3, 512);
        x.interpose(5, 0, 13);
        x.interpose(5, 1, 13);
        x.interpose(5, 2, 999);
        x.interpose(5, 3, 511);
        due("50 ahead", -3, x.forget(4));
        due("50 status", -3, x.status());
        due("50 wrong", -1, x.forget(-1));
        due("50 wrong", -1, x.forget(10000));
        due("50 status", -1, x.status());
        due("50 nothing yet", 13, x.berth(0, 0));
        due("50 others or none", 2, x.forget(6));
        due("50 another", 9, x.berth(0, 0));
        due("50 no bad bits", 13, x.berth(1, 0));
        due("50 none", 0, x.berth(2, 0));
        due("50 it had not that bit", 511, x.berth(3, 0));
        int[][] rows = {{6, 5, 2, -1, 999}, {6, 5, 0, -1, 13}};
        for (int i = 0; i < 2; i++) {
            for (int what = 0; what < 5; what++) {
                due("50 log", rows[i][what], x.log(i, what));
            }
        }
        due("50 in the same minute", 0, x.forget(6));
        due("50 again", 0, x.forget(8));
        due("50 minute", 8, x.count(8));
        due("50 status", 0, x.status());
    }

    private static void could() {
        TrainDescriber x = new TrainDescriber();
        x.due(15, 0, 0);
        x.due(13, 0, 0);
        x.due(12, 0, 0);
        x.due(13, 5, 9);
        x.due(2, 0, 0);
        x.bad(4, 3);
        x.interpose(0, 4, 12);
        due("51 how many, each once", 3, x.could(4, 0, 0));
        due("51 by numbers", 12, x.could(4, 1, 0));
        due("51 by numbers", 13, x.could(4, 1, 1));
        due("51 by numbers", 15, x.could(4, 1, 2));
        due("51 no more", -1, x.could(4, 1, 3));
        due("51 i is free", 3, x.could(4, 0, -1));
        x.interpose(0, 4, 13);
        due("51 a bit that is lost stands", 0, x.could(4, 0, 0));
        due("51 no bad bits", 0, x.could(5, 0, 0));
        x.interpose(0, 5, 2);
        due("51 itself", 1, x.could(5, 0, 0));
        x.cancel(0, 4);
        due("51 a name that is lost whole, where none stands", 1, x.could(4, 0, 0));
        due("51 that name", 2, x.could(4, 1, 0));
        int[][] wrong = {{-1, 0, 0}, {12, 0, 0}, {5, -1, 0}, {5, 2, 0}, {5, 1, -1}, {5, 1, MAX}};
        for (int[] w : wrong) {
            due("51 wrong", -1, x.could(w[0], w[1], w[2]));
        }
    }

    private static void alarms() {
        TrainDescriber x = new TrainDescriber();
        x.lies(0, 5);
        x.lies(11, 5);
        x.lies(3, 0);
        due("52 all clear", 0, x.alarms(0));
        x.event(0, 5, 1);
        due("52 two berths", 1 | 1 << 11, x.alarms(0));
        x.interpose(0, 0, 9);
        due("52 one has a name", 1 << 11, x.alarms(0));
        due("52 named", 1, x.alarms(2));
        x.event(0, 5, 0);
        due("52 clear", 0, x.alarms(0));
        due("52 no twins", 0, x.alarms(1));
        x.interpose(0, 1, 9);
        x.interpose(0, 2, 9);
        x.interpose(0, 3, 8);
        due("52 one name in three", 1, x.alarms(1));
        x.interpose(0, 4, 8);
        due("52 two names", 2, x.alarms(1));
        due("52 named", 31, x.alarms(2));
        due("52 wrong", -1, x.alarms(3));
        due("52 wrong", -1, x.alarms(-1));
    }
}
