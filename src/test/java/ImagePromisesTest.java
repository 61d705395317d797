import java.util.List;
import java.util.Random;

/** Promises 53 to 56: images hold all but the tape, fault and run; counts; status. */
public final class ImagePromisesTest {
    private static final Check CHECK = new Check("promises 53 to 56");

    public static void main(String[] args) {
        edges();
        notKept();
        for (int seed = 0; seed < 60; seed++) {
            allIsBack(seed);
        }
        count();
        status();
        CHECK.end();
    }

    private static void due(String call, long want, long got) {
        CHECK.due(call, want, got);
    }

    private static void edges() {
        TrainDescriber x = new TrainDescriber();
        for (int k : new int[] {-1, 2, Integer.MIN_VALUE, Integer.MAX_VALUE}) {
            due("53 wrong", -1, x.image(k));
            due("53 status", -1, x.status());
            due("54 wrong", -1, x.back(k));
            due("54 status", -1, x.status());
        }
        due("54 not kept", -2, x.back(0));
        due("54 status", -2, x.status());
        due("53", 0, x.image(1));
        due("53 status", 0, x.status());
        due("54 the other was not kept", -2, x.back(0));
        x.interpose(5, 0, 7);
        due("53", 0, x.image(0));
        due("54", 0, x.back(1));
        due("54 as it was", 0, x.berth(0, 0));
        due("54 minute", 0, x.count(8));
        due("54 images stay", 0, x.back(0));
        due("54 the other one", 7, x.berth(0, 0));
        x.cancel(6, 0);
        due("53 kept anew", 0, x.image(0));
        due("54 status", 0, x.status());
        due("54 back twice", 0, x.back(1));
        due("54 back twice", 0, x.back(1));
        due("54 kept anew", 0, x.back(0));
        due("54 kept anew", 6, x.count(8));
        due("54 kept anew", 0, x.berth(0, 0));
        x.interpose(7, 0, 9);
        due("54 what comes behind an image does not change it", 0, x.back(0));
        due("54 what comes behind an image does not change it", 0, x.berth(0, 0));
    }

    private static void notKept() {
        TrainDescriber x = new TrainDescriber();
        x.feed(0, 0, 0, 0, 0);
        x.image(0);
        x.feed(0, 0, 0, 0, 0);
        x.back(0);
        due("54 the tape goes on", 40, x.count(7));
        x.rules();
        due("22", 0, x.fault());
        x.back(0);
        due("54 fault stays", 0, x.fault());
        due("54 the tape goes on", 0, x.count(7));
        Check.rules(x, "step 0 to 1 at drop 1");
        x.interpose(0, 0, 7);
        Check.run(x, 1);
        x.back(0);
        due("54 no rules", 0, x.count(0));
        due("54 the run stays", 7, x.ends(1));
        due("54 the run stays", 1, x.fails(0, 0));
    }

    /** Every answer that tells of what an image keeps, by runs of both sets too. */
    private static List<Integer> answers(TrainDescriber x) {
        List<Integer> all = Answers.kept(x);
        all.addAll(Answers.changed(x));
        int set = x.use(0);
        for (int use = 0; use < 2; use++) {
            x.use(use);
            Check.run(x, 0, 1, 2, 3, 4, 5, 100, 101, 102, 103, 104, 105);
            for (int b = 0; b < 12; b++) {
                all.add(x.ends(b));
            }
            for (int what = 0; what < 5; what++) {
                all.add(x.proof(what));
                all.add(x.other(what));
            }
        }
        x.use(set);
        return all;
    }

    private static void anything(TrainDescriber x, Random r) {
        int minute = x.count(8) + r.nextInt(3);
        int b = r.nextInt(12);
        int name = 1 + r.nextInt(39);
        switch (r.nextInt(24)) {
            case 0 -> x.lies(b, r.nextInt(17) - 1);
            case 1 -> x.signal(r.nextInt(8), r.nextInt(2));
            case 2, 3, 4, 5 -> x.event(minute, r.nextInt(6), r.nextInt(2));
            case 6, 7 -> x.interpose(minute, b, name);
            case 8 -> x.cancel(minute, b);
            case 9 -> x.split(minute, b, r.nextInt(12), name);
            case 10 -> x.join(minute, b, r.nextInt(12));
            case 11 -> x.work(b, r.nextInt(60), r.nextInt(60));
            case 12 -> x.use(r.nextInt(2));
            case 13 -> Check.rules(x, "step " + b + " to " + r.nextInt(12) + " at drop " + r.nextInt(6)
                    + ";step " + r.nextInt(12) + " to " + r.nextInt(12) + " at pick " + r.nextInt(6) + " if signal "
                    + r.nextInt(8) + ";clear " + b + " at drop " + r.nextInt(6) + " if full " + r.nextInt(12));
            case 14 -> x.link(b, r.nextInt(12), r.nextInt(61));
            case 15 -> x.train(name);
            case 16 -> x.start(r.nextInt(3), b, r.nextInt(5));
            case 17 -> x.see(x.count(5) * 3 + r.nextInt(20), r.nextInt(4), r.nextInt(40));
            case 18 -> x.due(name, b, r.nextInt(60));
            case 19 -> x.station(b, r.nextInt(7) - 1);
            case 20 -> x.clock(r.nextInt(3), r.nextInt(61) - 30);
            case 21 -> x.code(r.nextInt(3), r.nextInt(4), name);
            case 22 -> x.bad(b, r.nextInt(1024) & r.nextInt(1024) & r.nextInt(1024));
            default -> {
                if (r.nextInt(6) == 0) {
                    x.clear();
                } else {
                    x.word(r.nextInt(3), minute, b, r.nextInt(4));
                    x.forget(x.count(8));
                }
            }
        }
    }

    private static void allIsBack(int seed) {
        Random r = new Random(seed);
        TrainDescriber x = new TrainDescriber();
        for (int i = 0; i < 90; i++) {
            anything(x, r);
        }
        x.image(0);
        List<Integer> first = answers(x);
        for (int i = 0; i < 60; i++) {
            anything(x, r);
        }
        x.image(1);
        List<Integer> second = answers(x);
        for (int i = 0; i < 60; i++) {
            anything(x, r);
        }
        due("54", 0, x.back(0));
        same("54 image 0", first, answers(x));
        for (int i = 0; i < 60; i++) {
            anything(x, r);
        }
        due("54", 0, x.back(1));
        same("54 image 1", second, answers(x));
        due("54", 0, x.back(0));
        same("54 image 0 again", first, answers(x));
    }

    private static void same(String what, List<Integer> want, List<Integer> got) {
        for (int i = 0; i < want.size(); i++) {
            due(what + ", answer " + i, want.get(i), got.get(i));
        }
    }

    private static void count() {
        TrainDescriber x = new TrainDescriber();
        Check.rules(x, "clear 0 at drop 0");
        x.interpose(3, 0, 5);
        x.interpose(3, 0, 5);
        x.event(4, 1, 0);
        x.event(4, 1, 0);
        x.work(0, 4, 5);
        x.work(1, 4, 5);
        x.interpose(4, 0, 5);
        x.interpose(5, 0, 5);
        x.interpose(5, 0, 5);
        x.link(0, 1, 1);
        x.train(1);
        x.train(2);
        x.see(0, 0, 0);
        x.due(1, 1, 1);
        x.due(1, 1, 1);
        x.due(1, 1, 1);
        x.feed(0, 0, 0, 0, 0);
        int[] want = {1, 9, 9, 1, 2, 1, 3, 20, 5, 2, 2, 3};
        for (int what = 0; what < 12; what++) {
            due("55 " + what, want[what], x.count(what));
        }
        for (int what : new int[] {-1, 12, Integer.MIN_VALUE, Integer.MAX_VALUE}) {
            due("55 others", -1, x.count(what));
        }
    }

    private static void refused(TrainDescriber x, String call, int answer) {
        due("56 " + call, -1, answer);
        due("56 status of " + call, -1, x.status());
        // Calls that are only asked leave the status.
        x.berth(0, 0);
        x.kin(1, 0);
        x.closed(0, 0);
        x.end(99999);
        x.fault();
        x.proof(0);
        x.mend(0);
        x.clear();
        x.found(1, 1);
        x.count(0);
        due("56 asked again", -1, x.status());
        x.signal(0, 0);
        due("56 allowed", 0, x.status());
    }

    private static void status() {
        TrainDescriber x = new TrainDescriber();
        refused(x, "lies", x.lies(12, 0));
        refused(x, "signal", x.signal(8, 0));
        refused(x, "event", x.event(0, 16, 0));
        refused(x, "interpose", x.interpose(0, 0, 0));
        refused(x, "cancel", x.cancel(0, 12));
        refused(x, "split", x.split(0, 0, 1, 0));
        refused(x, "join", x.join(0, 0, 0));
        refused(x, "work", x.work(12, 0, 0));
        refused(x, "use", x.use(2));
        refused(x, "link", x.link(0, 0, 0));
        refused(x, "train", x.train(0));
        refused(x, "start", x.start(0, 12, 0));
        refused(x, "see", x.see(0, 12, 0));
        refused(x, "due", x.due(0, 0, 0));
        refused(x, "station", x.station(0, 6));
        refused(x, "clock", x.clock(0, 31));
        refused(x, "code", x.code(0, 0, 0));
        refused(x, "word", x.word(0, -1, 0, 0));
        refused(x, "bad", x.bad(0, 1024));
        refused(x, "forget", x.forget(-1));
        refused(x, "image", x.image(2));
        refused(x, "back", x.back(2));
        due("56 rules", -6, x.rules());
        due("56 rules", -6, x.status());
        x.use(0);
        due("56 run", -6, x.run());
        due("56 run", -6, x.status());
        // A NONE that is an answer is no refusal.
        due("56", -1, x.station(0, 3));
        due("56 not refused", 0, x.status());
    }
}
