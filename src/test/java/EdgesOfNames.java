/** Terms V but for images; promises 38 to 52. */
final class EdgesOfNames extends Edges {
    private static final int NOTHING = -100000;

    EdgesOfNames(Ledger doc) {
        super(doc);
    }

    @Override
    void all() {
        doc.section("Terms");
        timetable();
        delays();
        lostNames();
        stations();
        platforms();
        ways();
        truths();
        boxes();
        words();
        drum();
        couldBe();
        alarmsAndTwins();
        dueRow();
        delay();
        station();
        platform();
        way();
        truth();
        found();
        lost();
        clock();
        code();
        word();
        bad();
        forget();
        could();
        alarms();
    }

    private void timetable() {
        TrainDescriber x = doc.says("The TIMETABLE: 40 rows at most: a NAME is due at a BERTH in a MINUTE.");
        for (int i = 1; i <= 40; i++) {
            due(i, x.due(i, i % 12, 9999));
        }
        due(-5, x.due(41, 0, 0));
        due(40, x.count(6));
        due(40, x.lost(9999, 0, 0));
        due(0, x.lost(9998, 0, 0));
        due(40, x.lost(9999, 1, 39));
        // All 40 are looked at, and no more of them.
        x.station(4, 3);
        x.interpose(9990, 4, 40);
        x.interpose(9990, 5, 41);
        due(-9, x.delay(40));
        due(4, x.platform(40));
        due(1, x.could(4, 0, 0));
        due(39, x.lost(9999, 0, 0));
        due(-100000, x.delay(41));
        due(-1, x.platform(41));
        due(0, x.could(5, 0, 0));
    }

    private void delays() {
        TrainDescriber x = doc.says("DELAY of a NAME: of the latest moved or interposed in the LOG that has it, into a"
                + " BERTH in which it is due:");
        Check.rules(x, "step 0 to 1 at drop 1; step 1 to 2 at drop 2");
        x.due(5, 0, 10);
        x.due(5, 1, 10);
        x.interpose(11, 0, 5);
        due(1, x.delay(5));
        x.event(13, 1, 1);
        due(3, x.delay(5));
        // In berth 2 it is not due, and another name's berth does not count.
        x.due(6, 2, 10);
        x.event(19, 2, 1);
        due(3, x.delay(5));
        x.interpose(20, 1, 6);
        due(3, x.delay(5));
        // Neither a split nor a join nor a cancelling is a move.
        x.split(21, 2, 0, 5);
        due(3, x.delay(5));
        x.join(22, 0, 2);
        x.cancel(23, 2);
        due(3, x.delay(5));
        // What the log has no more.
        for (int i = 0; i < 50; i++) {
            x.interpose(30, 9, 7);
            x.cancel(30, 9);
        }
        due(NOTHING, x.delay(5));

        TrainDescriber y = doc.says("the MINUTE of that less the one due that is next to it (of two the earlier one).");
        y.interpose(100, 0, 5);
        y.due(5, 0, 9999);
        due(-9899, y.delay(5));
        y.due(5, 0, 0);
        due(100, y.delay(5));
        y.due(5, 0, 110);
        due(-10, y.delay(5));
        y.due(5, 0, 90);
        due(10, y.delay(5));
        y.due(5, 0, 109);
        due(-9, y.delay(5));
        y.due(5, 0, 91);
        due(9, y.delay(5));
        y.due(5, 0, 100);
        due(0, y.delay(5));
        // The earlier one though it was told first.
        TrainDescriber z = new TrainDescriber();
        z.interpose(100, 0, 5);
        z.due(5, 0, 90);
        z.due(5, 0, 110);
        due(10, z.delay(5));
        // An earlier one that is farther is not the next, whichever was told first.
        TrainDescriber farther = new TrainDescriber();
        farther.interpose(100, 0, 5);
        farther.due(5, 0, 50);
        farther.due(5, 0, 99);
        farther.due(5, 0, 49);
        due(1, farther.delay(5));
        TrainDescriber far = new TrainDescriber();
        far.due(5, 0, 0);
        far.interpose(9999, 0, 5);
        due(9999, far.delay(5));
        TrainDescriber early = new TrainDescriber();
        early.due(5, 0, 9999);
        early.interpose(0, 0, 5);
        due(-9999, early.delay(5));
    }

    private void lostNames() {
        TrainDescriber x = doc.says("LOST by a MINUTE are NAMES that are due somewhere by then and stand in no BERTH.");
        x.due(5, 3, 10);
        due(0, x.lost(9, 0, 0));
        due(1, x.lost(10, 0, 0));
        x.interpose(0, 11, 5);
        due(0, x.lost(10, 0, 0));
        x.cancel(0, 11);
        due(1, x.lost(11, 0, 0));
        // Due twice it is one name; due by then once is enough.
        x.due(5, 4, 20);
        due(1, x.lost(15, 0, 0));
        due(1, x.lost(20, 0, 0));
    }

    private void stations() {
        TrainDescriber x = doc.says("STATIONS 0 .. 5: a BERTH is of one, or of none (at first).");
        for (int b = 0; b < 12; b++) {
            due(-1, x.station(b, 0));
            due(0, x.station(b, 5));
            due(5, x.station(b, -1));
            due(-1, x.station(b, b % 6));
        }
        due(-1, x.station(0, 6));
        due(-1, x.station(0, -2));
        due(0, x.station(0, 0));
        due(5, x.station(11, 0));
    }

    private void platforms() {
        TrainDescriber x = doc.says("PLATFORM of a NAME: of the latest in the LOG with which it COMES to a BERTH of a"
                + " STATION in which it is due at any BERTH:");
        Check.rules(x, "step 0 to 2 at drop 1; step 2 to 4 at drop 2");
        x.station(0, 0);
        x.station(1, 0);
        x.station(2, 5);
        x.station(3, 5);
        x.due(5, 1, 500);
        x.due(5, 3, 500);
        x.due(5, 4, 3);
        x.interpose(1, 0, 5);
        due(1, x.platform(5));
        x.event(2, 1, 1);
        due(3, x.platform(5));
        // Berth 4 is of no station: the latest that counts is the one before.
        x.event(3, 2, 1);
        due(3, x.platform(5));
        // A station in which it is not due.
        x.station(6, 1);
        x.interpose(4, 6, 5);
        due(3, x.platform(5));
        // To a station's berth one comes by a split too, not by being joined.
        x.split(5, 6, 0, 5);
        due(1, x.platform(5));
        x.interpose(6, 2, 7);
        x.join(6, 0, 2);
        due(1, x.platform(5));

        TrainDescriber y = doc.says("the BERTH of the due row that is next by MINUTES (of two the earlier told row).");
        for (int b = 0; b < 4; b++) {
            y.station(b, 2);
        }
        y.interpose(100, 0, 5);
        y.due(5, 3, 110);
        y.due(5, 1, 90);
        due(3, y.platform(5));
        y.due(5, 2, 109);
        due(2, y.platform(5));
        y.due(5, 1, 91);
        due(2, y.platform(5));
        y.due(5, 0, 100);
        due(0, y.platform(5));
        TrainDescriber z = new TrainDescriber();
        z.station(0, 2);
        z.station(1, 2);
        z.interpose(0, 0, 5);
        z.due(5, 1, 9999);
        due(1, z.platform(5));
    }

    private void ways() {
        TrainDescriber x = doc.says("WAY of a NAME: all BERTHS to which it COMES in the LOG, the oldest first.");
        Check.rules(x, "step 11 to 0 at drop 1; step 0 to 11 at pick 1");
        x.interpose(0, 11, 5);
        x.event(0, 1, 1);
        x.event(0, 1, 0);
        due(3, x.way(5, -1));
        due(11, x.way(5, 0));
        due(0, x.way(5, 1));
        due(11, x.way(5, 2));
        // The hundred of the log: the oldest ones go first.
        for (int i = 0; i < 97; i++) {
            due(3, x.way(5, -1));
            if (i % 2 == 0) {
                x.interpose(0, 3, 7);
            } else {
                x.cancel(0, 3);
            }
        }
        x.cancel(0, 3);
        due(2, x.way(5, -1));
        due(0, x.way(5, 0));
        due(11, x.way(5, 1));
    }

    private void truths() {
        TrainDescriber x = doc.says("TRUTH of a BERTH: the latest in the LOG that has it as FROM or TO.");
        Check.rules(x, "step 0 to 1 at drop 1");
        due(-1, x.truth(0, 0));
        x.interpose(3, 0, 5);
        due(3, x.truth(0, 0));
        due(2, x.truth(0, 1));
        x.event(4, 1, 1);
        due(4, x.truth(0, 0));
        due(0, x.truth(0, 1));
        due(4, x.truth(1, 0));
        due(5, x.truth(1, 2));
        x.split(5, 1, 11, 6);
        due(6, x.truth(1, 2));
        due(6, x.truth(11, 2));
        x.join(6, 11, 1);
        due(7, x.truth(1, 1));
        due(7, x.truth(11, 1));
        due(6, x.truth(1, 2));
        x.interpose(7, 1, 8);
        due(8, x.truth(1, 2));
        due(-1, x.truth(2, 0));
    }

    private void boxes() {
        TrainDescriber x = doc.says("BOXES 0 .. 2: a CLOCK -30 .. 30 MINUTES (0 at first); CODES 0 .. 99 that each is a"
                + " NAME (999 at first).");
        for (int box = 0; box < 3; box++) {
            due(0, x.clock(box, -30));
            due(-30, x.clock(box, 30));
            due(30, x.clock(box, box));
            for (int code = 0; code < 100; code++) {
                due(999, x.code(box, code, 1 + 100 * box + code));
            }
        }
        for (int box = 0; box < 3; box++) {
            due(box, x.clock(box, 0));
            for (int code = 0; code < 100; code++) {
                due(1 + 100 * box + code, x.code(box, code, 1));
            }
        }
        due(-2, x.clock(-1, 0));
        due(-2, x.clock(3, 0));
        due(-1, x.clock(0, -31));
        due(-1, x.clock(0, 31));
        due(-1, x.code(0, -1, 5));
        due(-1, x.code(0, 100, 5));
    }

    private void words() {
        TrainDescriber x = doc.says("A WORD of a BOX: in a MINUTE of its CLOCK (less CLOCK: ours) a CODE is at a BERTH: its"
                + " NAME is interposed.");
        x.clock(0, 30);
        x.clock(1, -30);
        x.code(0, 99, 5);
        due(5, x.word(0, 30, 11, 99));
        due(0, x.count(8));
        due(5, x.berth(11, 0));
        int[] row = {0, 2, -1, 11, 5};
        for (int what = 0; what < 5; what++) {
            due(row[what], x.log(0, what));
        }
        due(999, x.word(1, 0, 11, 99));
        due(30, x.count(8));
        due(4, x.log(1, 1));
        due(5, x.log(1, 4));
        due(999, x.word(2, 30, 0, 0));
        due(30, x.count(8));
        due(999, x.word(1, 9969, 0, 0));
        due(9999, x.count(8));
    }

    private void drum() {
        TrainDescriber x = doc.says("The DRUM: BAD bits (0 .. 1023, 0 at first) of a BERTH.");
        for (int b = 0; b < 12; b++) {
            due(0, x.berth(b, 2));
            due(0, x.bad(b, 1023));
            due(1023, x.bad(b, b));
        }
        due(-1, x.bad(0, 1024));
        due(-1, x.bad(0, -1));
        due(11, x.berth(11, 2));

        TrainDescriber y = doc.says("When it FORGETS, all NAMES lose the BAD bits of their BERTH (0: none then; above 999:"
                + " 999).");
        for (int b = 0; b < 12; b++) {
            y.interpose(0, b, 999);
            y.bad(b, b < 10 ? 1 << b : b == 10 ? 0 : 1023);
        }
        // 999 is 1111100111: it has not the bits 3 and 4, and berth 10 has none that is bad.
        due(9, y.forget(0));
        for (int b = 0; b < 12; b++) {
            due(b < 10 ? 999 & ~(1 << b) : b == 10 ? 999 : 0, y.berth(b, 0));
        }
        due(0, y.forget(0));
        // An empty berth stays empty, and a name loses the bits that are bad when it is forgotten, no others.
        y.bad(11, 1);
        y.bad(10, 512);
        due(1, y.forget(0));
        due(487, y.berth(10, 0));
        due(0, y.berth(11, 0));
        TrainDescriber z = new TrainDescriber();
        z.interpose(0, 0, 1);
        z.bad(0, 1);
        due(1, z.forget(0));
        due(0, z.berth(0, 0));
        due(0, z.alarms(2));
    }

    private void couldBe() {
        TrainDescriber x = doc.says("COULD BE: NAMES of the TIMETABLE (each once) that with these bits lost are what stands"
                + " in the BERTH.");
        x.bad(3, 6);
        for (int name : new int[] {9, 15, 11, 8, 9, 13, 15, 999}) {
            x.due(name, 0, 0);
        }
        x.interpose(0, 3, 9);
        // 9 is 1001, 11 1011, 13 1101, 15 1111; 8 is another one.
        due(4, x.could(3, 0, 0));
        due(9, x.could(3, 1, 0));
        due(15, x.could(3, 1, 3));
        x.interpose(0, 3, 8);
        due(1, x.could(3, 0, 0));
        // What stands there has a bit that is lost there: nothing could be so.
        x.interpose(0, 3, 15);
        due(0, x.could(3, 0, 0));
        x.bad(3, 0);
        due(1, x.could(3, 0, 0));
        // Lost whole, none is there.
        x.cancel(0, 3);
        due(0, x.could(3, 0, 0));
        x.bad(3, 1023);
        due(6, x.could(3, 0, 0));
        x.bad(3, 15);
        due(5, x.could(3, 0, 0));
    }

    private void alarmsAndTwins() {
        TrainDescriber x = doc.says("ALARMS: BERTHS whose TRACK is OCCUPIED and that have no NAME.");
        for (int b = 0; b < 12; b++) {
            x.lies(b, b < 6 ? 0 : 15);
        }
        due(0, x.alarms(0));
        x.event(0, 15, 1);
        due(4032, x.alarms(0));
        x.event(0, 0, 1);
        due(4095, x.alarms(0));
        x.interpose(0, 11, 5);
        due(2047, x.alarms(0));
        x.lies(0, 1);
        x.lies(1, -1);
        due(2044, x.alarms(0));
        x.event(0, 15, 0);
        due(60, x.alarms(0));

        TrainDescriber y = doc.says("TWINS: NAMES that stand in two BERTHS or more.");
        due(0, y.alarms(1));
        for (int b = 0; b < 12; b++) {
            y.interpose(0, b, 1 + b);
        }
        due(0, y.alarms(1));
        for (int b = 0; b < 12; b++) {
            y.interpose(0, b, 1 + b / 2);
        }
        due(6, y.alarms(1));
        for (int b = 0; b < 12; b++) {
            y.interpose(0, b, 999);
        }
        due(1, y.alarms(1));
        y.interpose(0, 5, 5);
        due(1, y.alarms(1));
    }

    private void dueRow() {
        doc.promise(38);
        TrainDescriber x = doc.says("A row of the TIMETABLE: how many there are.");
        due(1, x.due(1, 0, 0));
        due(2, x.due(999, 11, 9999));
        due(3, x.due(1, 0, 0));
        due(3, x.count(6));
        due(0, x.count(8));

        TrainDescriber y = doc.says("-1;");
        int[][] wrong = {{0, 0, 5}, {1000, 0, 5}, {5, -1, 5}, {5, 12, 5}, {5, 0, -1}, {5, 0, 10000}, {MIN, 0, 5},
            {MAX, 0, 5}, {5, MIN, 5}, {5, MAX, 5}, {5, 0, MIN}, {5, 0, MAX}};
        for (int[] w : wrong) {
            due(-1, y.due(w[0], w[1], w[2]));
            due(-1, y.status());
            due(0, y.count(6));
        }

        TrainDescriber z = doc.says("-5.");
        for (int i = 1; i <= 40; i++) {
            due(i, z.due(5, 0, 5));
        }
        due(-5, z.due(6, 0, 5));
        due(-5, z.status());
        due(40, z.count(6));
        due(1, z.lost(9999, 0, 0));
    }

    private void delay() {
        doc.promise(39);
        TrainDescriber x = doc.says("DELAY of a NAME.");
        x.due(999, 11, 10);
        x.due(1, 0, 10);
        x.interpose(7, 11, 999);
        x.interpose(12, 0, 1);
        due(-3, x.delay(999));
        due(2, x.delay(1));

        TrainDescriber y = doc.says("NOTHING (-100,000) without.");
        for (int name : new int[] {1, 999, 0, 1000, -1, MIN, MAX}) {
            due(NOTHING, y.delay(name));
        }
        y.due(5, 0, 10);
        due(NOTHING, y.delay(5));
        y.interpose(10, 1, 5);
        due(NOTHING, y.delay(5));
        y.interpose(10, 0, 6);
        due(NOTHING, y.delay(6));
        y.interpose(10, 2, 7);
        y.split(10, 2, 3, 8);
        y.due(8, 3, 10);
        due(NOTHING, y.delay(8));
    }

    private void station() {
        doc.promise(40);
        TrainDescriber x = doc.says("STATION of a BERTH (NONE: none): what it was.");
        due(-1, x.station(11, 5));
        due(0, x.status());
        due(5, x.station(11, 0));
        due(0, x.station(11, -1));
        due(-1, x.station(11, -1));
        due(-1, x.station(10, 5));

        TrainDescriber y = doc.says("-1.");
        y.station(0, 3);
        int[][] wrong = {{-1, 0}, {12, 0}, {0, -2}, {0, 6}, {MIN, 0}, {MAX, 0}, {0, MIN}, {0, MAX}};
        for (int[] w : wrong) {
            due(-1, y.station(w[0], w[1]));
            due(-1, y.status());
        }
        due(3, y.station(0, 3));
    }

    private void platform() {
        doc.promise(41);
        TrainDescriber x = doc.says("PLATFORM of a NAME: the BERTH at which it was due.");
        x.station(0, 5);
        x.station(11, 5);
        x.due(999, 11, 9999);
        x.due(1, 0, 0);
        x.interpose(7, 0, 999);
        x.interpose(8, 11, 1);
        due(11, x.platform(999));
        due(0, x.platform(1));

        TrainDescriber y = doc.says("NONE.");
        for (int name : new int[] {1, 999, 0, 1000, -1, MIN, MAX}) {
            due(-1, y.platform(name));
        }
        y.due(5, 0, 5);
        y.interpose(5, 0, 5);
        due(-1, y.platform(5));
        y.station(0, 0);
        due(0, y.platform(5));
        y.station(0, -1);
        y.station(1, 0);
        due(-1, y.platform(5));
        y.interpose(6, 1, 5);
        due(-1, y.platform(5));
    }

    private void way() {
        doc.promise(42);
        TrainDescriber x = doc.says("The i-th BERTH of the WAY of a NAME (i NONE: how many).");
        due(0, x.way(1, -1));
        due(0, x.way(999, -1));
        for (int i = 0; i < 12; i++) {
            due(i, x.way(999, -1));
            x.interpose(0, i, 999);
        }
        due(12, x.way(999, -1));
        for (int i = 0; i < 12; i++) {
            due(i, x.way(999, i));
        }

        TrainDescriber y = doc.says("NONE.");
        y.interpose(0, 3, 5);
        int[][] wrong = {{5, 1}, {5, -2}, {5, MIN}, {5, MAX}, {0, -1}, {0, 0}, {1000, -1}, {-1, -1}, {MIN, -1}, {MAX, 0},
            {6, 0}};
        for (int[] w : wrong) {
            due(-1, y.way(w[0], w[1]));
        }
        due(3, y.way(5, 0));
    }

    private void truth() {
        doc.promise(43);
        TrainDescriber x = doc.says("TRUTH of a BERTH: MINUTE (what 0), KIND (1), NAME (2).");
        x.interpose(9999, 11, 999);
        x.cancel(9999, 11);
        due(9999, x.truth(11, 0));
        due(3, x.truth(11, 1));
        due(999, x.truth(11, 2));

        TrainDescriber y = doc.says("NONE.");
        due(-1, y.truth(0, 0));
        y.interpose(5, 0, 7);
        due(-1, y.truth(1, 0));
        int[][] wrong = {{-1, 0}, {-1, 2}, {12, 0}, {0, -1}, {0, 3}, {0, 4}, {MIN, 0}, {MAX, 0}, {0, MIN}, {0, MAX}};
        for (int[] w : wrong) {
            due(-1, y.truth(w[0], w[1]));
        }
        // A berth that the log has no more.
        for (int i = 0; i < 50; i++) {
            due(5, y.truth(0, 0));
            y.interpose(6, 1, 7);
        }
        y.cancel(6, 1);
        due(-1, y.truth(0, 0));
    }

    private void found() {
        doc.promise(44);
        TrainDescriber x = doc.says("BERTHS, as bits, to which a NAME can have come by LINKS by a MINUTE from where it came"
                + " latest in the LOG (or where it was when it was cleared, cancelled, overrun, forgotten, joined: FROM"
                + " then), if it stands in none");
        x.link(0, 1, 3);
        x.link(1, 11, 60);
        Check.rules(x, "clear 0 at drop 1; step 4 to 0 at drop 2");
        x.interpose(0, 0, 5);
        x.event(1, 1, 1);
        due(1, x.found(5, 1));
        due(1, x.found(5, 3));
        due(3, x.found(5, 4));
        due(3, x.found(5, 63));
        due(2051, x.found(5, 64));
        due(2051, x.found(5, 9999));
        x.interpose(100, 0, 5);
        x.cancel(101, 0);
        due(3, x.found(5, 104));
        due(1, x.found(5, 103));
        x.interpose(110, 0, 5);
        x.interpose(111, 0, 6);
        due(3, x.found(5, 114));
        x.interpose(112, 4, 7);
        x.event(113, 2, 1);
        due(3, x.found(6, 116));
        due(1, x.found(6, 115));
        x.bad(0, 1023);
        x.forget(120);
        due(3, x.found(7, 123));
        due(1, x.found(7, 122));
        x.interpose(130, 0, 8);
        x.interpose(130, 5, 9);
        x.join(131, 0, 5);
        due(3, x.found(8, 134));
        due(1, x.found(8, 133));

        TrainDescriber y = doc.says("(NONE then for one that is not in the LOG, for a MINUTE ahead of that);");
        due(-1, y.found(5, 9999));
        y.interpose(7, 0, 5);
        y.cancel(9, 0);
        due(-1, y.found(5, 8));
        due(-1, y.found(5, 0));
        due(1, y.found(5, 9));
        due(-1, y.found(6, 9));
        for (int i = 0; i < 50; i++) {
            due(1, y.found(5, 9));
            y.interpose(10, 1, 7);
        }
        // The cancelling is the hundredth; one more, and the log has it no more.
        due(1, y.found(5, 9));
        y.cancel(10, 1);
        due(-1, y.found(5, 9));

        TrainDescriber z = doc.says("if it stands anywhere, these BERTHS alone.");
        z.link(0, 1, 0);
        z.interpose(7, 0, 5);
        due(1, z.found(5, 9999));
        due(1, z.found(5, 0));
        z.interpose(7, 11, 5);
        due(2049, z.found(5, 9999));
        z.cancel(8, 0);
        due(2048, z.found(5, 9999));
        // By forgetting it stands there, though the log has not that name.
        z.interpose(9, 3, 7);
        z.bad(3, 1);
        z.forget(9);
        due(8, z.found(6, 0));

        TrainDescriber w = doc.says("NONE.");
        w.interpose(0, 0, 5);
        int[][] wrong = {{0, 5}, {1000, 5}, {-1, 5}, {5, -1}, {5, 10000}, {MIN, 5}, {MAX, 5}, {5, MIN}, {5, MAX}};
        for (int[] n : wrong) {
            due(-1, w.found(n[0], n[1]));
        }
        due(1, w.found(5, 9999));
    }

    private void lost() {
        doc.promise(45);
        TrainDescriber x = doc.says("How many NAMES are LOST by a MINUTE (what 0), the i-th by numbers (1).");
        due(0, x.lost(9999, 0, 0));
        for (int i = 0; i < 40; i++) {
            x.due(i == 39 ? 1 : 999 - i / 2, i % 12, i);
        }
        due(21, x.lost(39, 0, 0));
        due(20, x.lost(38, 0, 0));
        due(1, x.lost(0, 0, 0));
        due(1, x.lost(39, 1, 0));
        due(980, x.lost(39, 1, 1));
        due(999, x.lost(39, 1, 20));
        due(999, x.lost(0, 1, 0));
        // Of how many there are i tells nothing.
        due(21, x.lost(39, 0, -1));
        due(21, x.lost(39, 0, MAX));
        x.interpose(0, 0, 980);
        due(20, x.lost(39, 0, 0));
        due(981, x.lost(39, 1, 1));

        TrainDescriber y = doc.says("NONE.");
        y.due(5, 0, 0);
        int[][] wrong = {{-1, 0, 0}, {10000, 0, 0}, {5, -1, 0}, {5, 2, 0}, {5, 1, -1}, {5, 1, 1}, {MIN, 0, 0},
            {MAX, 0, 0}, {5, MIN, 0}, {5, MAX, 0}, {5, 1, MIN}, {5, 1, MAX}};
        for (int[] w : wrong) {
            due(-1, y.lost(w[0], w[1], w[2]));
        }
        due(5, y.lost(0, 1, 0));
        y.interpose(0, 0, 5);
        due(-1, y.lost(0, 1, 0));
    }

    private void clock() {
        doc.promise(46);
        TrainDescriber x = doc.says("CLOCK of a BOX: what it was.");
        due(0, x.clock(0, -1));
        due(-1, x.clock(0, 30));
        due(0, x.status());
        due(30, x.clock(0, -30));
        due(-30, x.clock(0, 0));
        due(0, x.clock(2, 30));
        due(0, x.clock(1, 30));

        TrainDescriber y = doc.says("-1;");
        y.clock(0, 7);
        for (int minutes : new int[] {-31, 31, MIN, MAX}) {
            due(-1, y.clock(0, minutes));
            due(-1, y.status());
        }
        due(7, y.clock(0, 7));

        TrainDescriber z = doc.says("-2.");
        for (int box : new int[] {-1, 3, MIN, MAX}) {
            due(-2, z.clock(box, 0));
            due(-2, z.status());
        }
    }

    private void code() {
        doc.promise(47);
        TrainDescriber x = doc.says("A CODE of a BOX is a NAME: what it was.");
        due(999, x.code(0, 0, 1));
        due(1, x.code(0, 0, 999));
        due(999, x.code(0, 0, 5));
        due(999, x.code(2, 99, 5));
        due(999, x.code(0, 99, 5));
        due(999, x.code(1, 0, 5));
        due(5, x.word(2, 0, 0, 99));

        TrainDescriber y = doc.says("-1;");
        y.code(0, 0, 7);
        int[][] wrong = {{0, -1, 5}, {0, 100, 5}, {0, 0, 0}, {0, 0, 1000}, {0, MIN, 5}, {0, MAX, 5}, {0, 0, MIN},
            {0, 0, MAX}};
        for (int[] w : wrong) {
            due(-1, y.code(w[0], w[1], w[2]));
            due(-1, y.status());
        }
        due(7, y.code(0, 0, 7));

        TrainDescriber z = doc.says("-2.");
        for (int box : new int[] {-1, 3, MIN, MAX}) {
            due(-2, z.code(box, 0, 5));
            due(-2, z.status());
        }
    }

    private void word() {
        doc.promise(48);
        TrainDescriber x = doc.says("A WORD of a BOX: its NAME.");
        x.code(2, 99, 1);
        due(1, x.word(2, 0, 11, 99));
        due(999, x.word(0, 9999, 0, 0));
        due(1, x.berth(11, 0));
        due(999, x.berth(0, 0));

        TrainDescriber y = doc.says("-1 (a MINUTE of ours that can't be, too);");
        y.clock(0, 30);
        y.clock(1, -30);
        int[][] wrong = {{0, 29, 0, 0}, {0, 0, 0, 0}, {1, 9970, 0, 0}, {1, 9999, 0, 0}, {2, -1, 0, 0}, {2, 10000, 0, 0},
            {2, 5, -1, 0}, {2, 5, 12, 0}, {2, 5, 0, -1}, {2, 5, 0, 100}, {2, MIN, 0, 0}, {2, MAX, 0, 0}, {0, MIN, 0, 0},
            {1, MAX, 0, 0}, {2, 5, MIN, 0}, {2, 5, MAX, 0}, {2, 5, 0, MIN}, {2, 5, 0, MAX}};
        for (int[] w : wrong) {
            due(-1, y.word(w[0], w[1], w[2], w[3]));
            due(-1, y.status());
            due(0, y.count(2));
            due(0, y.count(8));
        }
        due(999, y.word(0, 30, 0, 0));
        due(999, y.word(1, 9969, 0, 0));

        TrainDescriber z = doc.says("-2;");
        for (int box : new int[] {-1, 3, MIN, MAX}) {
            due(-2, z.word(box, 5, 0, 0));
            due(-2, z.status());
            due(0, z.count(2));
        }

        TrainDescriber w = doc.says("-3 ahead of the latest.");
        w.clock(0, 30);
        w.interpose(7, 0, 5);
        due(-3, w.word(0, 36, 1, 0));
        due(-3, w.status());
        due(-3, w.word(1, 6, 1, 0));
        due(1, w.count(2));
        due(999, w.word(0, 37, 1, 0));
        due(7, w.count(8));
    }

    private void bad() {
        doc.promise(49);
        TrainDescriber x = doc.says("BAD bits of a BERTH: what they were.");
        due(0, x.bad(11, 1023));
        due(1023, x.bad(11, 1));
        due(1, x.bad(11, 0));
        due(0, x.bad(11, 512));
        due(0, x.bad(0, 0));
        due(512, x.berth(11, 2));

        TrainDescriber y = doc.says("-1.");
        y.bad(0, 7);
        int[][] wrong = {{-1, 0}, {12, 0}, {0, -1}, {0, 1024}, {MIN, 0}, {MAX, 0}, {0, MIN}, {0, MAX}};
        for (int[] w : wrong) {
            due(-1, y.bad(w[0], w[1]));
            due(-1, y.status());
            due(7, y.berth(0, 2));
        }
    }

    private void forget() {
        doc.promise(50);
        TrainDescriber x = doc.says("The DRUM FORGETS: how many NAMES became others or none.");
        due(0, x.forget(0));
        for (int b = 0; b < 12; b++) {
            x.bad(b, 1);
        }
        due(0, x.forget(0));
        for (int b = 0; b < 12; b++) {
            x.interpose(0, b, 1 + b % 3);
        }
        // 1 becomes none, 3 becomes 2, and 2 stays.
        due(8, x.forget(5));
        due(5, x.count(8));
        due(0, x.forget(9999));
        due(9999, x.count(8));

        TrainDescriber y = doc.says("-1;");
        y.interpose(0, 0, 1);
        y.bad(0, 1);
        for (int minute : new int[] {-1, 10000, MIN, MAX}) {
            due(-1, y.forget(minute));
            due(-1, y.status());
            due(1, y.berth(0, 0));
        }

        TrainDescriber z = doc.says("-3.");
        z.interpose(7, 0, 1);
        z.bad(0, 1);
        due(-3, z.forget(6));
        due(-3, z.status());
        due(1, z.berth(0, 0));
        due(1, z.forget(7));
    }

    private void could() {
        doc.promise(51);
        TrainDescriber x = doc.says("COULD BE in a BERTH: how many (what 0), the i-th by numbers (1).");
        due(0, x.could(0, 0, 0));
        x.bad(11, 63);
        x.interpose(0, 11, 64);
        for (int i = 0; i < 40; i++) {
            x.due(103 - i, 0, 0);
        }
        due(40, x.could(11, 0, 0));
        for (int i = 0; i < 40; i++) {
            due(64 + i, x.could(11, 1, i));
        }
        // Of how many there are i tells nothing.
        due(40, x.could(11, 0, -1));
        due(40, x.could(11, 0, MIN));
        x.interpose(0, 0, 103);
        due(1, x.could(0, 0, 0));
        due(103, x.could(0, 1, 0));

        TrainDescriber y = doc.says("NONE.");
        y.due(5, 0, 0);
        y.interpose(0, 0, 5);
        int[][] wrong = {{-1, 0, 0}, {12, 0, 0}, {0, -1, 0}, {0, 2, 0}, {0, 1, -1}, {0, 1, 1}, {MIN, 0, 0}, {MAX, 0, 0},
            {0, MIN, 0}, {0, MAX, 0}, {0, 1, MIN}, {0, 1, MAX}, {1, 1, 0}};
        for (int[] w : wrong) {
            due(-1, y.could(w[0], w[1], w[2]));
        }
        due(5, y.could(0, 1, 0));
    }

    private void alarms() {
        doc.promise(52);
        TrainDescriber x = doc.says("ALARMS as bits (what 0), how many TWINS (1), BERTHS that have a NAME, as bits (2).");
        x.lies(0, 0);
        x.lies(11, 0);
        x.event(0, 0, 1);
        due(2049, x.alarms(0));
        due(0, x.alarms(1));
        due(0, x.alarms(2));
        x.interpose(0, 0, 5);
        x.interpose(0, 11, 5);
        due(0, x.alarms(0));
        due(1, x.alarms(1));
        due(2049, x.alarms(2));
        for (int b = 0; b < 12; b++) {
            x.interpose(0, b, 1 + b);
        }
        due(4095, x.alarms(2));

        TrainDescriber y = doc.says("NONE.");
        for (int what : new int[] {-1, 3, MIN, MAX}) {
            due(-1, y.alarms(what));
        }
    }
}
