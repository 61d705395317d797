import java.util.Arrays;

/** Promises 23 to 30: runs worked out by hand. */
public final class RunPromisesTest {
    private static final Check CHECK = new Check("promises 23 to 30");

    public static void main(String[] args) {
        noRun();
        rows();
        byHand();
        swaps();
        hidden();
        watch();
        kept();
        CHECK.end();
    }

    private static void due(String call, long want, long got) {
        CHECK.due(call, want, got);
    }

    private static void noRun() {
        TrainDescriber x = new TrainDescriber();
        due("24", -1, x.ends(0));
        for (int what = -1; what < 7; what++) {
            due("25", -1, x.proof(what));
            due("27", -1, x.swaps(what, 0));
            due("28", -1, x.two(what));
            due("30", -1, x.other(what));
        }
        due("26", -1, x.fails(0, 0));
        due("29", -1, x.watch());
        due("23 an empty tape", -6, x.run());
        due("23 status", -6, x.status());
        due("24 still", -1, x.ends(0));
        due("29 still", -1, x.watch());
    }

    private static void rows() {
        TrainDescriber x = new TrainDescriber();
        Check.tape(x, 0, 16, 0, 127, 0, 144, 0, 255, 0);
        due("23 none in it", -6, x.run());
        due("23 the tape is empty then", 0, x.count(7));
        Check.tape(x, 255, 128, 0, 16, 255, 143, 9, 144, 1, 0, 2, 15, 128);
        due("23 others passed by", 4, x.run());
        due("23 the tape is empty then", 0, x.count(7));
        due("23 status", 0, x.status());
        int[] many = new int[122];
        for (int i = 0; i < 122; i += 2) {
            many[i + 1] = 128;
        }
        Check.tape(x, many);
        due("23 61 events", -6, x.run());
        due("26 the latest one stays", 0, x.fails(3, 0));
        due("26 the latest one stays", -1, x.fails(4, 0));
        Check.tape(x, Arrays.copyOf(many, 121));
        due("23 60 events and a byte", 60, x.run());
        many[7] = 99;
        Check.tape(x, many);
        due("23 60 events and one passed by", 60, x.run());
        due("26 the last", 0, x.fails(59, 1));
        due("26 beyond", -1, x.fails(60, 1));
    }

    private static void byHand() {
        TrainDescriber x = new TrainDescriber();
        Check.rules(x, "step 0 to 1 at drop 1; step 1 to 2 at drop 2; clear 2 at pick 2");
        x.interpose(3, 0, 7);
        x.interpose(3, 5, 8);
        due("23", 3, Check.run(x, 1, 2, 102));
        due("24", 0, x.ends(0));
        due("24", 0, x.ends(2));
        due("24", 8, x.ends(5));
        due("24", -1, x.ends(12));
        due("24", -1, x.ends(-1));
        // Missing 1: 7 stays in 0; missing 2: in 1; missing the pick: in 2. A bob of 2 clears at once, of the
        // pick steps nothing; late 1: 7 in 1; late 2: the pick is repeated, so 7 stays in 2.
        int[][] want = {{2, 0, 2}, {2, 0, 2}, {2, 0, -1}};
        for (int event = 0; event < 3; event++) {
            for (int kind = 0; kind < 3; kind++) {
                due("26 " + event + " " + kind, want[event][kind], x.fails(event, kind));
            }
        }
        due("26", -1, x.fails(0, 3));
        due("26", -1, x.fails(0, -1));
        due("26", -1, x.fails(-1, 0));
        due("26", -1, x.fails(3, 0));
        due("25 held", 3, x.proof(0));
        due("25 shifted", 0, x.proof(1));
        due("25 lost", 5, x.proof(2));
        due("25 first", 0, x.proof(3));
        due("25", -1, x.proof(4));
        due("25", -1, x.proof(-1));
        due("23 on paper", 7, x.berth(0, 0));
        due("23 on paper", 0, x.track(1));
        due("23 on paper", 2, x.count(2));
        due("23 on paper", 3, x.count(8));
        due("23 on paper", -1, x.came(0, 0));
        due("30 no rules: all held", 8, x.other(0));
        due("30", 0, x.other(2));
        due("30 lost by this alone", 5, x.other(3));
        due("30 by the other alone", 0, x.other(4));
        due("30 not alike", 0, x.other(5));
    }

    private static void swaps() {
        TrainDescriber x = new TrainDescriber();
        // Which of two names comes to 2 and which to 3 hangs on what drops first.
        Check.rules(x, "step 0 to 2 at drop 1 if not full 2; step 0 to 3 at drop 1;"
                + "step 1 to 2 at drop 2 if not full 2; step 1 to 3 at drop 2");
        x.interpose(0, 0, 7);
        x.interpose(0, 1, 8);
        due("23", 2, Check.run(x, 1, 2));
        due("26 late", 1, x.fails(0, 2));
        due("27 how many", 1, x.swaps(0, 0));
        due("27 i is free", 1, x.swaps(0, -9));
        due("27 the first", 2, x.swaps(1, 0));
        due("27 no more", -1, x.swaps(1, 1));
        due("27 no such", -1, x.swaps(1, -1));
        due("27 no such", -1, x.swaps(2, 0));
        due("27 no such", -1, x.swaps(-1, 0));
        TrainDescriber z = new TrainDescriber();
        Check.rules(z, "step 0 to 2 at drop 1; step 1 to 0 at drop 1; step 2 to 1 at drop 1");
        z.interpose(0, 0, 7);
        z.interpose(0, 1, 8);
        Check.run(z, 1);
        due("27 the first fault of all, and one that bobs", 2, z.swaps(0, 0));
        due("27 the first fault of all", 0, z.swaps(1, 0));
        due("27 one that bobs", 1, z.swaps(1, 1));
        // A name that ends elsewhere is shifted, yet no swap: the berths are not full in both.
        TrainDescriber y = new TrainDescriber();
        Check.rules(y, "step 0 to 1 at drop 1");
        y.interpose(0, 0, 7);
        Check.run(y, 1);
        due("26 shifted", 1, y.fails(0, 0));
        due("27 no swap", 0, y.swaps(0, 0));
        due("25 no fault by late", -1, y.fails(0, 2));
    }

    private static void hidden() {
        TrainDescriber x = new TrainDescriber();
        // Either drop moves the name: only both missing show.
        Check.rules(x, "step 0 to 1 at drop 1; step 0 to 1 at drop 2");
        x.interpose(0, 0, 7);
        due("23", 3, Check.run(x, 9, 1, 2));
        due("28 held", 2, x.two(0));
        due("28 shifted", 1, x.two(1));
        due("28 lost", 0, x.two(2));
        due("28 hidden", 1, x.two(3));
        due("28 the first", 62, x.two(4));
        due("28", -1, x.two(5));
        due("28", -1, x.two(-1));
        due("25 nothing not held", -1, x.proof(3));
        due("29 nothing to be seen", 0, x.watch());
        Check.run(x, 1);
        due("28 no pair", 0, x.two(0));
        due("28 no pair", -1, x.two(4));
    }

    private static void watch() {
        TrainDescriber x = new TrainDescriber();
        Check.rules(x, "step 0 to 1 at drop 1; step 2 to 3 at drop 2");
        x.interpose(0, 0, 7);
        x.interpose(0, 2, 8);
        Check.run(x, 1, 2);
        due("29 one of each two, the lowest", 5, x.watch());
        due("29 asked again", 5, x.watch());
        TrainDescriber all = new TrainDescriber();
        StringBuilder text = new StringBuilder();
        int[] row = new int[12];
        for (int b = 0; b < 12; b++) {
            all.interpose(0, b, 1 + b);
            text.append(b == 0 ? "" : ";").append("clear ").append(b).append(" at drop ").append(b);
            row[b] = b;
        }
        Check.rules(all, text.toString());
        Check.run(all, row);
        due("29 all of them", 4095, all.watch());
        Check.rules(x, "step 0 to 1 at drop 1; step 1 to 2 at drop 2; clear 9 at drop 2");
        Check.run(x, 1, 2);
        x.interpose(0, 11, 5);
        due("29 as it was when it ran, all shown by the overrun name", 4, x.watch());
    }

    /** What is told of a run stays, whatever comes behind it. */
    private static void kept() {
        TrainDescriber x = new TrainDescriber();
        x.image(0);
        Check.rules(x, "step 0 to 1 at drop 1; step 0 to 1 at drop 2");
        x.use(1);
        Check.rules(x, "step 0 to 2 at drop 1");
        x.interpose(5, 0, 7);
        due("23 by set 1", 2, Check.run(x, 1, 2));
        Check.rules(x, "clear 0 at drop 1");
        x.use(0);
        Check.rules(x, "clear 0 at drop 1");
        x.event(6, 1, 1);
        x.back(0);
        due("24 kept", 7, x.ends(2));
        due("28 kept though asked late", 1, x.two(1));
        due("28 kept", 0, x.two(0));
        due("29 kept", 1, x.watch());
        due("30 kept", 5, x.other(0));
        due("30 kept", 0, x.other(5));
        due("25 kept", 1, x.proof(1));
        x.run();
        due("24 by a refused one too", 7, x.ends(2));
    }
}
