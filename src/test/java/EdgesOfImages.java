import java.util.List;
import java.util.function.ToIntFunction;

/** Of Terms V what images keep; promises 53 to 56; the 512 calls of an object. */
final class EdgesOfImages extends Edges {
    EdgesOfImages(Ledger doc) {
        super(doc);
    }

    @Override
    void all() {
        doc.section("Terms");
        kept();
        backToOne();
        image();
        back();
        count();
        status();
        doc.section("What it is");
        calls();
    }

    private void kept() {
        TrainDescriber x = doc.says("IMAGES 0, 1 keep all but the TAPE, FAULT and the latest RUN (all that is told of it"
                + " is as it was when it ran);");
        for (int k = 0; k < 2; k++) {
            x = Answers.full();
            List<Integer> asked = Answers.kept(x);
            List<Integer> told = Answers.changed(x);
            x.image(k);
            Answers.change(x);
            due(1, Answers.apart(asked, Answers.kept(x)) > 100 ? 1 : 0);
            due(0, x.back(k));
            due(0, Answers.apart(asked, Answers.kept(x)));
            due(0, Answers.apart(told, Answers.changed(x)));
        }
        inTheSamePlaces();
        rowsGoneAround();
        minutesOfTrains();
        // The tape, the fault and the run go on as they are.
        TrainDescriber y = new TrainDescriber();
        y.feed(0, 0, 0, 0, 0);
        y.image(0);
        y.feed(0, 0, 0, 0, 0);
        y.back(0);
        due(40, y.count(7));
        due(-6, y.rules());
        y.back(0);
        due(0, y.fault());
        due(0, y.count(7));
        Check.rules(y, "step 0 to 1 at drop 1; step 0 to 1 at drop 2");
        y.interpose(5, 0, 7);
        Check.run(y, 1, 2);
        y.back(0);
        due(0, y.count(0));
        due(7, y.ends(1));
        // What is asked for the first time now is as it was when it ran.
        due(1, y.two(3));
        due(0, y.watch());
        due(5, y.other(0));
        due(0, y.other(5));
        due(5, y.proof(0));
    }

    /** From an image in which all is otherwise, back to the first. */
    private void inTheSamePlaces() {
        TrainDescriber x = new TrainDescriber();
        x.image(1);
        Answers.fill(x);
        x.image(0);
        List<Integer> asked = Answers.kept(x);
        List<Integer> told = Answers.changed(x);
        x.back(1);
        Answers.change(x);
        List<Integer> otherAsked = Answers.kept(x);
        List<Integer> otherTold = Answers.changed(x);
        x.image(1);
        for (int i = 0; i < 2; i++) {
            x.back(0);
            due(0, Answers.apart(asked, Answers.kept(x)));
            due(0, Answers.apart(told, Answers.changed(x)));
            x.back(1);
            due(0, Answers.apart(otherAsked, Answers.kept(x)));
            due(0, Answers.apart(otherTold, Answers.changed(x)));
        }
    }

    /** The log and the events have gone around when the image is kept, and go on from there when it is back. */
    private void rowsGoneAround() {
        TrainDescriber x = new TrainDescriber();
        for (int i = 0; i < 77; i++) {
            x.interpose(i, 3, 1 + i);
            x.event(i, i % 16, i / 16 % 2);
        }
        x.image(1);
        List<Integer> asked = Answers.kept(x);
        for (int i = 0; i < 33; i++) {
            x.interpose(100 + i, 3, 1 + i);
            x.event(100 + i, 0, i % 2);
        }
        x.back(1);
        due(0, Answers.apart(asked, Answers.kept(x)));
        x.interpose(80, 3, 500);
        x.event(81, 0, 1);
        due(500, x.log(0, 4));
        due(77, x.log(1, 4));
        due(81, x.came(0, 0));
        due(76, x.came(1, 0));
        due(155, x.count(2));
    }

    /** Minutes of starts and of what was seen, which mendings alone tell. */
    private void minutesOfTrains() {
        TrainDescriber x = new TrainDescriber();
        x.train(5);
        x.link(0, 1, 4);
        x.start(0, 0, 5);
        x.see(5, 0, 5);
        x.see(9, 1, 5);
        due(0, x.mend(0));
        x.image(0);
        x.start(0, 0, 6);
        due(-1, x.mend(0));
        x.image(1);
        x.clear();
        x.train(5);
        x.see(1, 0, 5);
        x.see(4, 1, 5);
        due(-1, x.mend(0));
        x.back(0);
        due(0, x.mend(0));
        due(-3, x.see(8, 1, 5));
        due(2, x.see(9, 1, 5));
        x.back(1);
        due(-1, x.mend(0));
        x.start(0, 0, 5);
        due(0, x.mend(0));
    }

    private void backToOne() {
        TrainDescriber x = doc.says("BACK to one all that it keeps is as it was then (IMAGES stay).");
        x.image(0);
        x.interpose(5, 0, 7);
        x.image(1);
        x.interpose(6, 0, 8);
        due(0, x.back(0));
        due(0, x.berth(0, 0));
        due(0, x.count(8));
        due(0, x.back(1));
        due(7, x.berth(0, 0));
        due(5, x.count(8));
        due(0, x.back(0));
        due(0, x.back(0));
        due(0, x.berth(0, 0));
        // What comes behind it does not change an image.
        x.interpose(9, 0, 9);
        due(0, x.back(0));
        due(0, x.berth(0, 0));
        due(0, x.count(2));
        due(0, x.back(1));
        due(7, x.berth(0, 0));
    }

    private void image() {
        doc.promise(53);
        TrainDescriber x = doc.says("IMAGE k is kept: 0;");
        due(0, x.image(0));
        due(0, x.status());
        due(0, x.image(1));
        x.interpose(5, 0, 7);
        // Kept anew: the one before is gone.
        due(0, x.image(0));
        x.cancel(6, 0);
        due(0, x.back(0));
        due(7, x.berth(0, 0));
        due(0, x.back(1));
        due(0, x.berth(0, 0));

        TrainDescriber y = doc.says("-1.");
        for (int k : new int[] {-1, 2, MIN, MAX}) {
            due(-1, y.image(k));
            due(-1, y.status());
        }
        due(-2, y.back(0));
        due(-2, y.back(1));
    }

    private void back() {
        doc.promise(54);
        TrainDescriber x = doc.says("BACK to IMAGE k: 0.");
        x.image(1);
        x.interpose(5, 0, 7);
        due(0, x.back(1));
        due(0, x.status());
        due(0, x.berth(0, 0));

        TrainDescriber y = doc.says("-1;");
        y.image(0);
        y.image(1);
        y.interpose(5, 0, 7);
        for (int k : new int[] {-1, 2, MIN, MAX}) {
            due(-1, y.back(k));
            due(-1, y.status());
            due(7, y.berth(0, 0));
        }

        TrainDescriber z = doc.says("-2 it was not kept.");
        z.interpose(5, 0, 7);
        due(-2, z.back(0));
        due(-2, z.status());
        due(-2, z.back(1));
        due(7, z.berth(0, 0));
        z.image(0);
        due(-2, z.back(1));
        due(0, z.back(0));
    }

    private void count() {
        doc.promise(55);
        TrainDescriber c = doc.says("0 CLAUSES,");
        due(0, c.count(0));
        Check.rules(c, "clear 0 at drop 0;clear 0 at drop 0");
        due(2, c.count(0));
        c.use(1);
        due(0, c.count(0));

        TrainDescriber l = doc.says("1 in the LOG, 2 all that ever came to it,");
        for (int i = 1; i <= 101; i++) {
            l.interpose(0, 0, 5);
            l.cancel(0, 0);
            due(Math.min(2 * i, 100), l.count(1));
            due(2 * i, l.count(2));
        }
        l.interpose(0, 0, 0);
        l.event(0, 0, 1);
        due(202, l.count(2));

        TrainDescriber m = doc.says("3 LINKS, 4 TRAINS, 5 SEEN, 6 rows of the TIMETABLE, 7 bytes of the TAPE,");
        m.link(0, 1, 1);
        m.train(1);
        m.train(1);
        m.see(0, 0, 1);
        m.see(0, 0, 1);
        m.see(0, 0, 1);
        for (int i = 0; i < 40; i++) {
            due(i, m.count(6));
            m.due(1, 1, 1);
        }
        m.feed(0, 0, 0, 0, 0);
        m.end(5);
        int[] want = {1, 2, 3, 40, 5};
        for (int i = 0; i < 5; i++) {
            due(want[i], m.count(3 + i));
        }

        TrainDescriber r = doc.says("8 the latest MINUTE, 9 REPEATED EVENTS,");
        due(0, r.count(8));
        r.event(9998, 0, 0);
        due(9998, r.count(8));
        due(1, r.count(9));
        r.event(9999, 0, 1);
        due(1, r.count(9));
        for (int i = 0; i < 60; i++) {
            r.event(9999, 0, 1);
        }
        due(9999, r.count(8));
        due(61, r.count(9));
        r.see(0, 0, 1);
        r.due(1, 0, 5);
        r.work(0, 5, 9);
        due(9999, r.count(8));

        TrainDescriber w = doc.says("10 WORKS, 11 how often a NAME TRESPASSED.");
        w.work(0, 0, 9999);
        due(1, w.count(10));
        for (int i = 1; i <= 120; i++) {
            w.interpose(0, 0, 5);
            due(i, w.count(11));
        }

        TrainDescriber n = doc.says("NONE for others.");
        for (int what : new int[] {-1, 12, MIN, MAX}) {
            due(-1, n.count(what));
        }
        due(0, n.count(11));
    }

    /** A refused call tells why until a call of its kind that is not refused; questions leave it. */
    private void tells(int why, ToIntFunction<TrainDescriber> refused, ToIntFunction<TrainDescriber> allowed) {
        TrainDescriber x = Answers.full();
        due(0, x.status());
        due(why, refused.applyAsInt(x));
        due(why, x.status());
        Answers.asked(x);
        x.end(500);
        x.end(0);
        x.feed(0, 0, 0, 0, 0);
        x.clear();
        due(why, x.status());
        due(why, x.status());
        x.train(5);
        refused.applyAsInt(x);
        allowed.applyAsInt(x);
        due(0, x.status());
    }

    private void status() {
        doc.promise(56);
        doc.says("What the latest call of lies, signal, event, interpose, cancel, split, join, work,");
        tells(-1, x -> x.lies(12, 0), x -> x.lies(0, -1));
        tells(-1, x -> x.signal(8, 0), x -> x.signal(0, 1));
        tells(-3, x -> x.event(0, 0, 1), x -> x.event(9, 0, 1));
        tells(-3, x -> x.interpose(0, 0, 5), x -> x.interpose(9, 0, 5));
        tells(-3, x -> x.cancel(9, 11), x -> x.cancel(9, 0));
        tells(-3, x -> x.split(9, 11, 10, 5), x -> x.split(9, 0, 11, 5));
        tells(-3, x -> x.join(9, 11, 0), x -> x.join(9, 0, 1));
        tells(-1, x -> x.work(0, 9, 5), x -> x.work(0, 5, 9));

        doc.says("use, rules, run, link, train, start, see, due, station,");
        tells(-1, x -> x.use(2), x -> x.use(1));
        tells(-6, x -> Check.rules(x, "?"), x -> Check.rules(x, "clear 0 at drop 0"));
        tells(-6, x -> {
            Check.tape(x, 0, 16);
            return x.run();
        }, x -> Check.run(x, 1));
        tells(-1, x -> x.link(0, 0, 5), x -> x.link(0, 11, 5));
        tells(-1, x -> x.train(0), x -> x.train(5));
        tells(-2, x -> x.start(3, 0, 0), x -> x.start(0, 0, 0));
        tells(-1, x -> x.see(0, 12, 0), x -> x.see(9, 0, 0));
        tells(-1, x -> x.due(0, 0, 0), x -> x.due(5, 0, 0));
        tells(-1, x -> x.station(0, 6), x -> x.station(0, -1));

        doc.says("clock, code, word, bad, forget, image, back was REFUSED by;");
        tells(-2, x -> x.clock(3, 0), x -> x.clock(0, -1));
        tells(-2, x -> x.code(3, 0, 5), x -> x.code(0, 0, 5));
        tells(-3, x -> x.word(0, 0, 0, 0), x -> x.word(0, 9, 0, 0));
        tells(-1, x -> x.bad(0, 1024), x -> x.bad(0, 1));
        tells(-3, x -> x.forget(0), x -> x.forget(9));
        tells(-1, x -> x.image(2), x -> x.image(1));
        tells(-2, x -> x.back(1), x -> x.back(0));

        TrainDescriber y = doc.says("0 if it was not, or ahead of any.");
        due(0, y.status());
        // An answer below 0 that is none of refusing.
        due(-1, y.lies(0, 5));
        due(0, y.status());
        due(-1, y.station(0, 5));
        due(0, y.status());
        y.clock(0, -1);
        due(-1, y.clock(0, -2));
        due(0, y.status());
        y.event(0, 0, 0);
        due(0, y.status());
    }

    private void calls() {
        TrainDescriber x = doc.says("An object is used for at most 512 calls after it has been made; what later calls"
                + " answer is free.");
        for (int i = 1; i <= 511; i++) {
            due(i == 1 ? 0 : 1 + (i - 2) % 999, x.interpose(i, 0, 1 + (i - 1) % 999));
        }
        due(1021, x.count(2));
        TrainDescriber y = new TrainDescriber();
        for (int i = 1; i <= 511; i++) {
            y.event(i, i % 16, i / 16 % 2);
        }
        due(511, y.came(0, 0));
    }
}
