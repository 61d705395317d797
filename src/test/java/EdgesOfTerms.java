import java.util.ArrayList;
import java.util.List;
import java.util.function.ToIntFunction;

/** Terms I, and of Terms II what events, the log, kin and works are. */
final class EdgesOfTerms extends Edges {
    EdgesOfTerms(Ledger doc) {
        super(doc);
    }

    @Override
    void all() {
        doc.section("Terms");
        constants();
        tracks();
        signals();
        berths();
        minutes();
        numbersThatCannotBe();
        noSuch();
        notByWhatStands();
        noRoom();
        noText();
        refusedInOrder();
        plainTests();
        dropsAndPicks();
        repeated();
        inOrder();
        steps();
        clears();
        log();
        logKinds();
        comes();
        splitAndJoin();
        kin();
        works();
        trespasses();
    }

    private void constants() {
        doc.says("The constants: `NONE = -1`: There is none.");
        due(-1, TrainDescriber.NONE);
    }

    private void tracks() {
        TrainDescriber x = doc.says("TRACKS 0 .. 15, clear at first, or OCCUPIED.");
        for (int t = 0; t <= 15; t++) {
            due(0, x.track(t));
            x.event(0, t, 1);
            due(0, x.status());
            due(1, x.track(t));
            due(t == 15 ? -1 : 0, x.track(t + 1));
        }
        due(-1, x.event(0, -1, 1));
        due(-1, x.event(0, 16, 1));
        due(-1, x.track(-1));
    }

    private void signals() {
        TrainDescriber x = doc.says("SIGNALS 0 .. 7, ON at first, or OFF.");
        for (int s = 0; s <= 7; s++) {
            due(0, x.signal(s, 1));
            due(1, x.signal(s, 1));
        }
        for (int s = 7; s >= 0; s--) {
            due(1, x.signal(s, 0));
            due(0, x.signal(s, 0));
        }
        due(-1, x.signal(-1, 1));
        due(-1, x.signal(8, 1));
    }

    private void berths() {
        TrainDescriber x = doc.says(
                "BERTHS 0 .. 11, each with a NAME 1 .. 999, or none (0; at first), and on a TRACK, or none (at first).");
        for (int b = 0; b <= 11; b++) {
            due(0, x.berth(b, 0));
            due(-1, x.berth(b, 1));
            due(0, x.interpose(0, b, 1));
            due(1, x.berth(b, 0));
            due(1, x.interpose(0, b, 999));
            due(999, x.berth(b, 0));
            due(-1, x.lies(b, 15));
            due(15, x.lies(b, 0));
            due(0, x.berth(b, 1));
        }
        for (int b : new int[] {-1, 12}) {
            due(-1, x.interpose(0, b, 1));
            due(-1, x.lies(b, 1));
            due(-1, x.berth(b, 0));
        }
        due(-1, x.interpose(0, 0, 0));
        due(-1, x.interpose(0, 0, 1000));
        due(999, x.berth(0, 0));
    }

    /** A minute ahead of the latest by each call that tells one. */
    private void minutes() {
        TrainDescriber x = doc.says("MINUTES 0 .. 9999; none is told ahead of the latest one (0 at first).");
        due(0, x.count(8));
        due(0, x.interpose(0, 0, 5));
        due(0, x.interpose(9998, 1, 6));
        due(-3, x.event(9997, 0, 1));
        due(-3, x.interpose(9997, 0, 5));
        due(-3, x.cancel(9997, 0));
        due(-3, x.split(9997, 0, 2, 7));
        due(-3, x.join(9997, 0, 1));
        due(-3, x.word(0, 9997, 0, 0));
        due(-3, x.forget(9997));
        due(9998, x.count(8));
        due(0, x.event(9998, 0, 1));
        due(0, x.forget(9998));
        due(5, x.split(9998, 0, 2, 7));
        due(7, x.join(9998, 2, 1));
        due(6, x.cancel(9998, 1));
        due(999, x.word(0, 9998, 3, 0));
        due(5, x.interpose(9998, 0, 5));
        due(-1, x.interpose(10000, 0, 5));
        due(-1, x.interpose(-1, 0, 5));
        due(5, x.interpose(9999, 0, 5));
        due(9999, x.count(8));
        due(-3, x.interpose(9998, 0, 5));
        due(-3, x.interpose(0, 0, 5));
    }

    private void refusedBy(int why, ToIntFunction<TrainDescriber> call) {
        TrainDescriber x = Answers.full();
        List<Integer> before = Answers.asked(x);
        due(why, call.applyAsInt(x));
        due(why, x.status());
        due(0, Answers.apart(before, Answers.asked(x)));
        due(0, Answers.apart(Answers.changed(Answers.full()), Answers.changed(x)));
    }

    /** Calls with one number that can't be, all others good. */
    private static List<ToIntFunction<TrainDescriber>> wrongByOne() {
        List<ToIntFunction<TrainDescriber>> calls = new ArrayList<>();
        for (int n : new int[] {MIN, -2, 10000, MAX}) {
            calls.add(x -> x.lies(n, 2));
            calls.add(x -> x.lies(0, n));
            calls.add(x -> x.signal(n, 1));
            calls.add(x -> x.signal(0, n));
            calls.add(x -> x.event(n, 5, 1));
            calls.add(x -> x.event(9, n, 1));
            calls.add(x -> x.event(9, 5, n));
            calls.add(x -> x.interpose(n, 0, 5));
            calls.add(x -> x.interpose(9, n, 5));
            calls.add(x -> x.interpose(9, 0, n));
            calls.add(x -> x.cancel(n, 0));
            calls.add(x -> x.cancel(9, n));
            calls.add(x -> x.split(n, 0, 3, 5));
            calls.add(x -> x.split(9, n, 3, 5));
            calls.add(x -> x.split(9, 0, n, 5));
            calls.add(x -> x.split(9, 0, 3, n));
            calls.add(x -> x.join(n, 0, 1));
            calls.add(x -> x.join(9, n, 1));
            calls.add(x -> x.join(9, 0, n));
            calls.add(x -> x.work(n, 5, 9));
            calls.add(x -> x.work(0, n, 9999));
            calls.add(x -> x.work(0, 0, n));
            calls.add(x -> x.use(n));
            calls.add(x -> x.link(n, 1, 2));
            calls.add(x -> x.link(0, n, 2));
            calls.add(x -> x.link(0, 1, n));
            calls.add(x -> x.train(n));
            calls.add(x -> x.start(0, n, 5));
            calls.add(x -> x.start(0, 3, n));
            calls.add(x -> x.see(n, 0, 5));
            calls.add(x -> x.see(9, n, 5));
            calls.add(x -> x.see(9, 0, n));
            calls.add(x -> x.due(n, 0, 5));
            calls.add(x -> x.due(5, n, 5));
            calls.add(x -> x.due(5, 0, n));
            calls.add(x -> x.station(n, 1));
            calls.add(x -> x.station(0, n));
            calls.add(x -> x.clock(0, n == -2 ? 31 : n));
            calls.add(x -> x.code(0, n, 5));
            calls.add(x -> x.code(0, 5, n));
            calls.add(x -> x.word(0, n, 0, 5));
            calls.add(x -> x.word(0, 9, n, 5));
            calls.add(x -> x.word(0, 9, 0, n));
            calls.add(x -> x.bad(n, 1));
            calls.add(x -> x.bad(0, n));
            calls.add(x -> x.forget(n));
            calls.add(x -> x.image(n));
            calls.add(x -> x.back(n));
        }
        return calls;
    }

    private void numbersThatCannotBe() {
        doc.says("REFUSED by: -1 a number that can't be;");
        for (ToIntFunction<TrainDescriber> call : wrongByOne()) {
            refusedBy(-1, call);
        }
    }

    private void noSuch() {
        doc.says("-2 there is no such TRAIN, BOX, IMAGE;");
        for (int n : new int[] {MIN, -1, 3, MAX}) {
            refusedBy(-2, x -> x.start(n, 0, 0));
            refusedBy(-2, x -> x.clock(n, 5));
            refusedBy(-2, x -> x.code(n, 5, 5));
            refusedBy(-2, x -> x.word(n, 9, 0, 5));
        }
        // Two trains are told, and one image is kept.
        refusedBy(-2, x -> x.start(2, 0, 0));
        refusedBy(-2, x -> x.back(1));
    }

    private void notByWhatStands() {
        doc.says("-3 it can't be by what stands;");
        refusedBy(-3, x -> x.event(7, 5, 1));
        refusedBy(-3, x -> x.interpose(7, 0, 5));
        refusedBy(-3, x -> x.cancel(7, 0));
        refusedBy(-3, x -> x.cancel(9, 11));
        refusedBy(-3, x -> x.split(7, 0, 11, 5));
        refusedBy(-3, x -> x.split(9, 11, 10, 5));
        refusedBy(-3, x -> x.split(9, 0, 4, 5));
        refusedBy(-3, x -> x.join(7, 0, 4));
        refusedBy(-3, x -> x.join(9, 11, 4));
        refusedBy(-3, x -> x.join(9, 0, 11));
        refusedBy(-3, x -> x.see(7, 0, 5));
        refusedBy(-3, x -> x.word(0, 7, 0, 5));
        refusedBy(-3, x -> x.forget(7));
    }

    private void refusedWhenFull(int room, ToIntFunction<TrainDescriber> call) {
        TrainDescriber x = new TrainDescriber();
        int told = 0;
        for (int i = 0; i < room; i++) {
            told += call.applyAsInt(x) >= 0 ? 1 : 0;
        }
        due(room, told);
        List<Integer> before = Answers.asked(x);
        due(-5, call.applyAsInt(x));
        due(-5, x.status());
        due(0, Answers.apart(before, Answers.asked(x)));
    }

    private void noRoom() {
        doc.says("-5 no room;");
        refusedWhenFull(8, x -> x.work(0, 5, 9));
        refusedWhenFull(24, x -> x.link(x.count(3) / 11, (x.count(3) / 11 + 1 + x.count(3) % 11) % 12, 9));
        refusedWhenFull(3, x -> x.train(5));
        refusedWhenFull(16, x -> x.see(5, 0, 5));
        refusedWhenFull(40, x -> x.due(5, 0, 5));
    }

    private void noText() {
        TrainDescriber x = doc.says("-6 a TEXT, a ROW that can't be.");
        due(-6, Check.rules(x, "step"));
        due(-6, x.status());
        x.use(0);
        Check.tape(x, 0, 16);
        due(-6, x.run());
        due(-6, x.status());
    }

    private void refusedInOrder() {
        doc.says("The first of these in that order.");
        // A number that can't be, ahead of a box, a train, an image that isn't there.
        refusedBy(-1, x -> x.start(3, 12, 0));
        refusedBy(-1, x -> x.start(3, 0, 10000));
        refusedBy(-1, x -> x.clock(3, 31));
        refusedBy(-1, x -> x.code(3, 100, 1));
        refusedBy(-1, x -> x.code(3, 0, 0));
        refusedBy(-1, x -> x.word(3, 10000, 0, 0));
        refusedBy(-1, x -> x.word(3, 9, 12, 0));
        refusedBy(-1, x -> x.word(3, 9, 0, 100));
        // A number that can't be, ahead of what stands: the minute is ahead of the latest.
        refusedBy(-1, x -> x.event(7, 16, 1));
        refusedBy(-1, x -> x.event(7, 0, 2));
        refusedBy(-1, x -> x.interpose(7, 12, 5));
        refusedBy(-1, x -> x.interpose(7, 0, 1000));
        refusedBy(-1, x -> x.cancel(7, 12));
        refusedBy(-1, x -> x.split(7, 12, 0, 5));
        refusedBy(-1, x -> x.split(7, 0, 12, 5));
        refusedBy(-1, x -> x.split(7, 0, 4, 0));
        refusedBy(-1, x -> x.join(7, 12, 0));
        refusedBy(-1, x -> x.join(7, 11, 11));
        refusedBy(-1, x -> x.see(7, 12, 5));
        refusedBy(-1, x -> x.see(7, 0, 1000));
        refusedBy(-1, x -> x.word(0, 7, 12, 0));
        refusedBy(-1, x -> x.word(0, 7, 0, 100));
        // A box that isn't there, ahead of what stands.
        refusedBy(-2, x -> x.word(3, 7, 0, 0));
        fullInOrder();
    }

    /** What stands, and a number that can't be, ahead of no room. */
    private void fullInOrder() {
        TrainDescriber x = new TrainDescriber();
        for (int i = 0; i < 40; i++) {
            x.work(0, 5, 9);
            x.link(i % 11, i / 11 + (i / 11 >= i % 11 ? 1 : 0), 9);
            x.train(5);
            x.see(5, 0, 5);
            x.due(5, 0, 5);
        }
        due(-5, x.work(0, 5, 9));
        due(-1, x.work(0, 9, 5));
        due(-5, x.link(11, 0, 9));
        due(-1, x.link(11, 11, 9));
        due(-1, x.link(11, 0, 61));
        due(-5, x.train(5));
        due(-1, x.train(0));
        due(-5, x.see(5, 0, 5));
        due(-3, x.see(4, 0, 5));
        due(-1, x.see(4, 12, 5));
        due(-5, x.due(5, 0, 5));
        due(-1, x.due(0, 0, 5));
    }

    /** How many names an event of track 9 clears by a test, which is one if it is so. */
    private static int so(TrainDescriber x, String test) {
        Check.rules(x, "clear 9 at drop 9 if " + test);
        x.interpose(0, 9, 5);
        x.event(0, 9, 0);
        return x.event(0, 9, 1);
    }

    private void plainTests() {
        TrainDescriber x = doc.says("track: it is OCCUPIED; signal: it is OFF; full: it has a NAME.");
        due(0, so(x, "track 15"));
        x.event(0, 15, 1);
        due(1, so(x, "track 15"));
        due(0, so(x, "signal 7"));
        x.signal(7, 1);
        due(1, so(x, "signal 7"));
        due(0, so(x, "full 11"));
        x.interpose(0, 11, 1);
        due(1, so(x, "full 11"));
        x.event(0, 15, 0);
        x.signal(7, 0);
        x.cancel(0, 11);
        due(0, so(x, "track 15 or signal 7 or full 11"));
    }

    private void dropsAndPicks() {
        TrainDescriber x = doc.says("An EVENT: a TRACK drops (it is OCCUPIED then) or picks up (clear).");
        // The track is so ahead of the rules.
        Check.rules(x, "step 0 to 1 at drop 3 if track 3; step 1 to 0 at pick 3 if not track 3");
        x.interpose(0, 0, 5);
        due(1, x.event(0, 3, 1));
        due(1, x.track(3));
        due(1, x.event(0, 3, 0));
        due(0, x.track(3));
        due(5, x.berth(0, 0));
    }

    private void repeated() {
        TrainDescriber x = doc.says("If it is so already, it is REPEATED: nothing else.");
        Check.rules(x, "step 0 to 1 at drop 3; step 0 to 2 at pick 3; step 0 to 2 at pick 4");
        x.interpose(0, 0, 5);
        due(0, x.event(0, 4, 0));
        due(1, x.count(9));
        x.event(1, 3, 1);
        x.interpose(1, 0, 6);
        due(1, x.count(9));
        due(0, x.event(2, 3, 1));
        due(2, x.count(9));
        due(6, x.berth(0, 0));
        due(5, x.berth(1, 0));
        due(1, x.since(3));
        due(1, x.track(3));
        due(3, x.count(2));
        due(1, x.event(3, 3, 0));
        due(0, x.event(4, 3, 0));
        due(3, x.count(9));
        due(0, x.track(3));
        due(3, x.since(3));
    }

    private void inOrder() {
        TrainDescriber x = doc.says("Else the RULES are gone through in order: one that is \"at\" this and whose \"if\""
                + " (if it has one) is so at its turn:");
        Check.rules(x, "step 0 to 1 at drop 3; step 1 to 2 at drop 3 if full 1 and not full 0;"
                + "step 2 to 4 at drop 3 if full 0; step 2 to 5 at pick 3; step 2 to 6 at drop 4");
        x.interpose(0, 0, 5);
        due(2, x.event(0, 3, 1));
        due(5, x.berth(2, 0));
        // The contrary order: the name has not come yet when the first clause is looked at.
        TrainDescriber y = new TrainDescriber();
        Check.rules(y, "step 1 to 2 at drop 3; step 0 to 1 at drop 3");
        y.interpose(0, 0, 5);
        due(1, y.event(0, 3, 1));
        due(5, y.berth(1, 0));
    }

    private void steps() {
        TrainDescriber x = doc.says("\"step\": if the first BERTH has a NAME, that MOVES to the other one; a NAME that"
                + " stands there is OVERRUN (it is gone; not if both are the same BERTH: nothing then);");
        Check.rules(x, "step 0 to 1 at drop 3; step 2 to 2 at drop 4; step 0 to 1 at drop 5");
        // The first is empty: the name at the other one stays.
        x.interpose(0, 1, 6);
        due(0, x.event(0, 3, 1));
        due(6, x.berth(1, 0));
        due(1, x.count(2));
        // Both are the same.
        x.interpose(0, 2, 7);
        due(0, x.event(0, 4, 1));
        due(7, x.berth(2, 0));
        due(2, x.count(2));
        // One is overrun; it is in no berth any more.
        x.interpose(0, 0, 5);
        due(1, x.event(0, 5, 1));
        due(5, x.berth(1, 0));
        due(0, x.berth(0, 0));
        due(6, x.alarms(2));
        due(5, x.count(2));
    }

    private void clears() {
        TrainDescriber x = doc.says("\"clear\": its NAME, if it has one, is gone.");
        Check.rules(x, "clear 11 at drop 3; clear 11 at pick 3");
        due(0, x.event(0, 3, 1));
        due(0, x.count(2));
        x.interpose(0, 11, 999);
        due(1, x.event(0, 3, 0));
        due(0, x.berth(11, 0));
        due(2, x.count(2));
    }

    private void log() {
        TrainDescriber x = doc.says("The LOG keeps the latest 100 that happened to NAMES: MINUTE, KIND");
        for (int i = 0; i < 100; i++) {
            due(i, x.count(1));
            if (i % 2 == 0) {
                x.interpose(i, 3, 1 + i);
            } else {
                x.cancel(i, 3);
            }
        }
        due(100, x.count(1));
        due(0, x.log(99, 0));
        due(1, x.log(99, 4));
        due(-1, x.log(100, 0));
        x.interpose(200, 3, 500);
        due(100, x.count(1));
        due(101, x.count(2));
        due(200, x.log(0, 0));
        due(500, x.log(0, 4));
        due(1, x.log(99, 0));
        due(3, x.log(99, 1));
        due(1, x.log(99, 4));
        due(-1, x.log(100, 0));
    }

    private void row(TrainDescriber x, int i, int... row) {
        for (int what = 0; what < 5; what++) {
            due(row[what], x.log(i, what));
        }
    }

    private void logKinds() {
        TrainDescriber x = doc.says("0 moved, 1 cleared,");
        Check.rules(x, "step 0 to 1 at drop 3; clear 1 at pick 3; step 2 to 1 at drop 4");
        x.interpose(1, 0, 5);
        x.event(2, 3, 1);
        row(x, 0, 2, 0, 0, 1, 5);
        x.event(3, 3, 0);
        row(x, 0, 3, 1, 1, -1, 5);

        TrainDescriber y = doc.says("2 interposed, 3 cancelled,");
        y.interpose(1, 11, 5);
        row(y, 0, 1, 2, -1, 11, 5);
        y.cancel(2, 11);
        row(y, 0, 2, 3, 11, -1, 5);

        TrainDescriber z = doc.says("4 overrun (ahead of the move, of the interposing),");
        Check.rules(z, "step 0 to 1 at drop 3");
        z.interpose(1, 0, 5);
        z.interpose(1, 1, 6);
        z.event(2, 3, 1);
        row(z, 1, 2, 4, 1, -1, 6);
        row(z, 0, 2, 0, 0, 1, 5);
        z.interpose(3, 1, 7);
        row(z, 1, 3, 4, 1, -1, 5);
        row(z, 0, 3, 2, -1, 1, 7);

        TrainDescriber f = doc.says("5 forgotten (it became another one, or none),");
        f.interpose(1, 0, 5);
        f.interpose(1, 1, 6);
        f.bad(0, 1);
        f.bad(1, 1023);
        f.forget(2);
        row(f, 1, 2, 5, 0, -1, 5);
        row(f, 0, 2, 5, 1, -1, 6);
        due(4, f.berth(0, 0));
        due(0, f.berth(1, 0));

        TrainDescriber s = doc.says("6 split (the new NAME, FROM the BERTH of the other one, TO its own),");
        s.interpose(1, 3, 5);
        s.split(2, 3, 8, 6);
        row(s, 0, 2, 6, 3, 8, 6);

        TrainDescriber j = doc.says("7 joined (the NAME that ends, FROM its BERTH, TO that of the other one),");
        j.interpose(1, 3, 5);
        j.interpose(1, 8, 6);
        j.join(2, 3, 8);
        row(j, 0, 2, 7, 3, 8, 5);

        TrainDescriber n = doc.says("FROM, TO (NONE without), the NAME.");
        n.interpose(0, 0, 1);
        due(-1, n.log(0, 2));
        n.interpose(0, 0, 999);
        due(-1, n.log(1, 3));
        due(1, n.log(1, 4));
        due(999, n.log(0, 4));
    }

    private void comes() {
        TrainDescriber x = doc.says("Moved, interposed, split COME to the BERTH TO.");
        Check.rules(x, "step 0 to 1 at drop 3; clear 1 at pick 3");
        x.interpose(0, 0, 5);
        x.event(0, 3, 1);
        due(2, x.way(5, -1));
        due(0, x.way(5, 0));
        due(1, x.way(5, 1));
        x.split(0, 1, 2, 6);
        due(1, x.way(6, -1));
        due(2, x.way(6, 0));
        // A name that is joined does not come, nor one that is cleared, overrun, cancelled, forgotten.
        x.join(0, 2, 1);
        due(1, x.way(6, -1));
        x.event(0, 3, 0);
        due(2, x.way(5, -1));
        x.interpose(0, 4, 7);
        x.interpose(0, 4, 8);
        due(1, x.way(7, -1));
        x.cancel(0, 4);
        due(1, x.way(8, -1));
        x.interpose(0, 4, 9);
        x.bad(4, 1);
        x.forget(0);
        due(1, x.way(9, -1));
        due(-1, x.way(8, 1));
    }

    private void splitAndJoin() {
        TrainDescriber x = doc.says("SPLIT: of the train at a BERTH a part gets a NAME of its own at another one, which"
                + " is empty;");
        x.interpose(0, 0, 5);
        x.interpose(0, 1, 6);
        due(-3, x.split(0, 0, 1, 7));
        due(-3, x.split(0, 0, 0, 7));
        due(5, x.split(0, 0, 11, 7));
        due(5, x.berth(0, 0));
        due(7, x.berth(11, 0));
        due(6, x.berth(1, 0));

        TrainDescriber y = doc.says("JOIN: a train comes to another one and its NAME ends.");
        y.interpose(0, 0, 5);
        y.interpose(0, 1, 6);
        due(5, y.join(0, 0, 1));
        due(0, y.berth(0, 0));
        due(6, y.berth(1, 0));
    }

    private void kin() {
        TrainDescriber x = doc.says("KIN: each NAME keeps from which one it was split latest, to which one it was joined"
                + " latest (images keep that).");
        x.interpose(0, 0, 999);
        x.interpose(0, 1, 998);
        x.split(0, 0, 2, 1);
        due(999, x.kin(1, 0));
        x.image(0);
        x.join(0, 2, 1);
        due(998, x.kin(1, 1));
        x.split(0, 1, 2, 1);
        due(998, x.kin(1, 0));
        x.join(0, 2, 0);
        due(999, x.kin(1, 1));
        // It is kept by the name, though no berth has it.
        x.cancel(0, 0);
        due(998, x.kin(1, 0));
        due(999, x.kin(1, 1));
        x.back(0);
        due(999, x.kin(1, 0));
        due(0, x.kin(1, 1));
    }

    private void works() {
        TrainDescriber x = doc.says("WORK, 8 at most: a BERTH is closed from a MINUTE to another one.");
        for (int i = 1; i <= 8; i++) {
            due(i, x.work(i, 10 * i, 10 * i + 2));
        }
        due(-5, x.work(0, 0, 0));
        due(8, x.count(10));
        for (int i = 1; i <= 8; i++) {
            due(0, x.closed(i, 10 * i - 1));
            due(1, x.closed(i, 10 * i));
            due(1, x.closed(i, 10 * i + 1));
            due(1, x.closed(i, 10 * i + 2));
            due(0, x.closed(i, 10 * i + 3));
            due(0, x.closed(i + 1, 10 * i));
        }
    }

    private void trespasses() {
        TrainDescriber x = doc.says("A NAME that COMES there in them TRESPASSES (once for each that COMES).");
        Check.rules(x, "step 0 to 1 at drop 3; step 0 to 1 at drop 4; step 1 to 0 at pick 3");
        x.work(1, 5, 7);
        x.work(1, 6, 9);
        x.interpose(4, 1, 5);
        due(0, x.count(11));
        x.interpose(5, 1, 5);
        due(1, x.count(11));
        x.interpose(6, 1, 6);
        due(2, x.count(11));
        x.interpose(6, 0, 7);
        due(2, x.count(11));
        x.event(7, 3, 1);
        due(3, x.count(11));
        x.event(7, 3, 0);
        due(3, x.count(11));
        x.event(9, 4, 1);
        due(4, x.count(11));
        x.cancel(9, 1);
        x.interpose(9, 0, 7);
        x.split(9, 0, 1, 8);
        due(5, x.count(11));
        x.cancel(9, 1);
        due(999, x.word(0, 9, 1, 0));
        due(6, x.count(11));
        x.join(9, 0, 1);
        x.forget(9);
        due(6, x.count(11));
        x.interpose(10, 1, 8);
        due(6, x.count(11));
    }
}
