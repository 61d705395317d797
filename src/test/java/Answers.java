import java.util.ArrayList;
import java.util.List;

/**
 * Every answer that tells of an object, so that two moments of it can be compared. These are more than the 512 calls
 * that the document promises answers for; the class answers all of them alike.
 */
final class Answers {
    private Answers() {
    }

    /** By questions alone: what is told of the tape, the fault and the latest run is among them. */
    static List<Integer> asked(TrainDescriber x) {
        List<Integer> all = kept(x);
        all.add(x.count(7));
        all.add(x.fault());
        for (int i = 0; i < 12; i++) {
            all.add(x.ends(i));
            all.add(x.proof(i));
            all.add(x.two(i));
            all.add(x.other(i));
            all.add(x.swaps(i == 0 ? 0 : 1, i));
            for (int kind = 0; kind < 3; kind++) {
                all.add(x.fails(i, kind));
            }
        }
        all.add(x.watch());
        return all;
    }

    /** By questions alone: what an image keeps. */
    static List<Integer> kept(TrainDescriber x) {
        List<Integer> all = new ArrayList<>();
        for (int b = 0; b < 12; b++) {
            for (int what = 0; what < 3; what++) {
                all.add(x.berth(b, what));
                all.add(x.truth(b, what));
                all.add(x.could(b, 0, 0));
            }
            for (int minute = 0; minute < 60; minute++) {
                all.add(x.closed(b, minute));
            }
        }
        for (int t = 0; t < 16; t++) {
            all.add(x.track(t));
            all.add(x.since(t));
            all.add(x.held(200, 100, t));
        }
        for (int i = 0; i < 100; i++) {
            for (int what = 0; what < 5; what++) {
                all.add(x.came(i, what));
                all.add(x.log(i, what));
            }
        }
        for (int name = 1; name < 40; name++) {
            all.add(x.kin(name, 0));
            all.add(x.kin(name, 1));
            all.add(x.delay(name));
            all.add(x.platform(name));
            all.add(x.way(name, -1));
            all.add(x.found(name, 300));
        }
        for (int i = 0; i < 16; i++) {
            all.add(x.mended(i, 0));
            all.add(x.mended(i, 1));
            all.add(x.lost(100, 1, i));
        }
        for (int what = 0; what < 12; what++) {
            all.add(what == 7 ? 0 : x.count(what));
            all.add(x.alarms(what));
            all.add(x.mend(what));
        }
        return all;
    }

    /** What calls alone tell that change it, put back at once. */
    static List<Integer> changed(TrainDescriber x) {
        List<Integer> all = new ArrayList<>();
        for (int b = 0; b < 12; b++) {
            int was = x.station(b, -1);
            x.station(b, was);
            all.add(was);
        }
        for (int s = 0; s < 8; s++) {
            int was = x.signal(s, 0);
            x.signal(s, was);
            all.add(was);
        }
        for (int box = 0; box < 3; box++) {
            int was = x.clock(box, 0);
            x.clock(box, was);
            all.add(was);
            for (int code = 0; code < 100; code++) {
                int name = x.code(box, code, 1);
                x.code(box, code, name);
                all.add(name);
            }
        }
        int set = x.use(0);
        all.add(set);
        for (int use = 0; use < 2; use++) {
            x.use(use);
            all.add(x.count(0));
        }
        x.use(set);
        return all;
    }

    /** How many answers of two moments differ. */
    static int apart(List<Integer> one, List<Integer> other) {
        int many = Math.abs(one.size() - other.size());
        for (int i = 0; i < Math.min(one.size(), other.size()); i++) {
            many += one.get(i).equals(other.get(i)) ? 0 : 1;
        }
        return many;
    }

    /** An object with something of everything in it, a run, bytes on its tape and image 0. */
    static TrainDescriber full() {
        TrainDescriber x = new TrainDescriber();
        fill(x);
        Check.run(x, 2, 102, 101);
        x.feed(0x00810082, 0x00010002, 0x00810082, 0x00010002, 0x00810082);
        x.image(0);
        return x;
    }

    /** Something of everything that an image keeps. */
    static void fill(TrainDescriber x) {
        Check.rules(x, "step 0 to 1 at drop 1; step 1 to 2 at drop 2 if signal 3; clear 2 at pick 2");
        x.use(1);
        Check.rules(x, "step 0 to 2 at drop 1; clear 2 at drop 2");
        x.use(0);
        x.signal(3, 1);
        x.work(1, 5, 20);
        x.interpose(3, 0, 7);
        x.interpose(3, 4, 9);
        x.event(5, 1, 1);
        x.event(6, 1, 1);
        x.split(6, 4, 5, 8);
        x.interpose(6, 6, 11);
        x.join(7, 6, 5);
        x.interpose(7, 0, 12);
        x.lies(3, 1);
        x.station(1, 2);
        x.bad(4, 1);
        x.link(1, 2, 4);
        x.link(2, 3, 5);
        x.train(7);
        x.train(9);
        x.start(0, 1, 2);
        x.see(6, 2, 7);
        x.see(8, 2, 9);
        x.due(7, 1, 4);
        x.due(9, 4, 9);
        x.due(13, 4, 9);
        x.clock(1, 10);
        x.code(1, 5, 14);
        x.forget(8);
    }

    /** Something else of everything that an image keeps, in the same places, by an object that is new or filled. */
    static void change(TrainDescriber x) {
        x.event(20, 2, 1);
        x.event(21, 1, 0);
        x.event(21, 5, 0);
        x.signal(3, 0);
        x.signal(4, 1);
        x.interpose(22, 9, 30);
        x.split(22, 9, 10, 31);
        x.join(22, 10, 9);
        x.lies(0, 2);
        x.lies(3, -1);
        x.bad(4, 0);
        x.bad(9, 5);
        x.forget(23);
        x.station(1, 3);
        x.station(9, 0);
        x.work(9, 22, 40);
        x.work(2, 9, 11);
        x.interpose(24, 9, 7);
        x.link(3, 4, 6);
        x.link(1, 2, 60);
        x.link(4, 5, 9);
        for (int i = 0; i < 3; i++) {
            x.train(21 + i);
            x.start(i, 9 - i, 16 - i);
        }
        for (int i = 0; i < 4; i++) {
            x.see(17 + i, 7, 36 + i);
            x.due(32 + i, 9 - i, 12 + i);
        }
        x.clock(1, -3);
        x.clock(2, 5);
        x.code(1, 5, 15);
        x.code(2, 99, 16);
        Check.rules(x, "clear 9 at drop 9");
        x.use(1);
        Check.rules(x, "clear 9 at drop 9; clear 8 at drop 9; clear 7 at drop 9");
    }
}
