import java.util.Random;

/** Promises 31 to 37: mendings by hand, then many against one that tries each row of trains. */
public final class MendPromisesTest {
    private static final Check CHECK = new Check("promises 31 to 37");

    public static void main(String[] args) {
        link();
        trainAndStart();
        see();
        mend();
        zeroMinutes();
        largest();
        mendAnew();
        clear();
        Random random = new Random(35);
        for (int i = 0; i < 600; i++) {
            againstEachRow(random);
        }
        CHECK.end();
    }

    private static void due(String call, long want, long got) {
        CHECK.due(call, want, got);
    }

    private static void link() {
        TrainDescriber x = new TrainDescriber();
        int[][] wrong = {{0, 0, 1}, {-1, 0, 1}, {12, 0, 1}, {0, -1, 1}, {0, 12, 1}, {0, 1, -1}, {0, 1, 61}};
        for (int[] w : wrong) {
            due("31 wrong", -1, x.link(w[0], w[1], w[2]));
            due("31 status", -1, x.status());
        }
        int many = 0;
        for (int i = 0; i < 24; i++) {
            many++;
            due("31 link", many, x.link(i / 2, (i / 2 + 1 + i % 2) % 12, i % 2 * 60));
        }
        due("31 no room", -5, x.link(0, 5, 1));
        due("31 status", -5, x.status());
        due("31 wrong ahead of no room", -1, x.link(0, 0, 1));
        due("31 told again", 24, x.link(0, 1, 7));
        due("31 status", 0, x.status());
        due("55 links", 24, x.count(3));
        x.interpose(0, 0, 5);
        x.cancel(0, 0);
        due("31 the later counts", 1, x.found(5, 6));
        due("31 the later counts, and 0 minutes from there on", 4095, x.found(5, 7));
    }

    private static void trainAndStart() {
        TrainDescriber x = new TrainDescriber();
        due("32 wrong", -1, x.train(0));
        due("32 wrong", -1, x.train(1000));
        due("32 status", -1, x.status());
        due("33 none", -2, x.start(0, 0, 0));
        due("32", 0, x.train(1));
        due("32", 1, x.train(999));
        due("32 the same name", 2, x.train(1));
        due("32 no room", -5, x.train(5));
        due("32 status", -5, x.status());
        due("32 wrong ahead", -1, x.train(-5));
        due("55 trains", 3, x.count(4));
        due("33", 0, x.start(2, 11, 9999));
        due("33 none any more", 0, x.start(2, -1, 0));
        due("33 no such", -2, x.start(3, 0, 0));
        due("33 no such", -2, x.start(-1, 0, 0));
        due("33 status", -2, x.status());
        int[][] wrong = {{0, -2, 0}, {0, 12, 0}, {0, 0, -1}, {0, 0, 10000}, {3, 12, 0}, {-1, 0, -1}};
        for (int[] w : wrong) {
            due("33 wrong", -1, x.start(w[0], w[1], w[2]));
            due("33 status", -1, x.status());
        }
    }

    private static void see() {
        TrainDescriber x = new TrainDescriber();
        x.interpose(500, 0, 1);
        int[][] wrong = {{-1, 0, 0}, {10000, 0, 0}, {0, -1, 0}, {0, 12, 0}, {0, 0, -1}, {0, 0, 1000}};
        for (int[] w : wrong) {
            due("34 wrong", -1, x.see(w[0], w[1], w[2]));
            due("34 status", -1, x.status());
        }
        due("34 earlier than the latest minute", 0, x.see(5, 0, 999));
        due("34 ahead", -3, x.see(4, 0, 0));
        due("34 status", -3, x.status());
        due("34 wrong ahead of that", -1, x.see(4, 12, 0));
        for (int i = 1; i < 16; i++) {
            due("34", i, x.see(5 + i / 4, 11, 0));
        }
        due("34 ahead, then no room", -3, x.see(7, 0, 0));
        due("34 no room", -5, x.see(9, 0, 0));
        due("34 status", -5, x.status());
        due("55 seen", 16, x.count(5));
        due("34 the latest minute is another", 500, x.count(8));
    }

    private static void mend() {
        TrainDescriber x = new TrainDescriber();
        due("35 nothing seen", 0, x.mend(0));
        due("35 nothing seen", 1, x.mend(1));
        due("35", -1, x.mend(2));
        due("35", -1, x.mend(-1));
        due("36", -1, x.mended(0, 0));
        x.see(0, 0, 5);
        due("35 no trains", -1, x.mend(0));
        due("35 no trains", -1, x.mend(1));
        due("36 no trains", -1, x.mended(0, 0));
        x.train(5);
        due("35 now", 0, x.mend(0));
        due("35 now", 1, x.mend(1));
        x.train(6);
        x.see(3, 0, 0);
        due("35 none was read: no slip", 0, x.mend(0));
        due("35 two ways", 2, x.mend(1));
        due("36 the first", 0, x.mended(1, 0));
        due("36 sure", 1, x.mended(0, 1));
        due("36 not sure", 0, x.mended(1, 1));
        due("36", -1, x.mended(1, 2));
        due("36", -1, x.mended(1, -1));
        due("36", -1, x.mended(2, 0));
        due("36", -1, x.mended(-1, 0));
        x.see(4, 1, 7);
        due("35 a name of no train", 1, x.mend(0));
        // By train 1 alone: train 0 was at 0, from which no link goes; train 1 may come out of nowhere.
        due("35", 1, x.mend(1));
        due("36", 1, x.mended(2, 0));
        due("36", 1, x.mended(2, 1));
        due("36", 0, x.mended(1, 0));
        x.start(1, 2, 0);
        due("35 nobody can", -1, x.mend(0));
        due("36 nobody can", -1, x.mended(0, 0));
        x.link(2, 1, 5);
        due("35 too far", -1, x.mend(1));
        x.link(2, 1, 4);
        due("35 just so", 1, x.mend(1));
        x.start(1, 1, 5);
        due("35 a start behind", -1, x.mend(1));
        x.start(1, 1, 4);
        due("35 a start there and then", 1, x.mend(1));
    }

    private static void zeroMinutes() {
        TrainDescriber x = new TrainDescriber();
        x.train(1);
        x.see(5, 0, 1);
        x.see(5, 1, 1);
        due("35 two places at once", -1, x.mend(0));
        x.link(1, 0, 0);
        due("35 the link goes the other way", -1, x.mend(0));
        x.link(0, 2, 0);
        x.link(2, 1, 0);
        due("35 no time needed", 0, x.mend(0));
    }

    private static void largest() {
        TrainDescriber x = new TrainDescriber();
        x.train(1);
        x.train(1);
        x.train(2);
        for (int i = 0; i < 16; i++) {
            x.see(i, 3, 0);
        }
        due("35 all rows", 43046721, x.mend(1));
        due("36", 0, x.mended(15, 0));
        due("36", 0, x.mended(15, 1));
        x.clear();
        x.train(3);
        x.train(3);
        x.train(2);
        for (int i = 0; i < 16; i++) {
            x.see(9999, 3, i % 2 == 0 ? 2 : 999);
        }
        due("35 slips", 8, x.mend(0));
        due("35 each slip by any", 6561, x.mend(1));
        due("36", 2, x.mended(0, 0));
        due("36", 1, x.mended(0, 1));
        due("36", 0, x.mended(1, 0));
        due("36", 0, x.mended(1, 1));
    }

    /** Whatever is told between two questions counts. */
    private static void mendAnew() {
        TrainDescriber x = new TrainDescriber();
        x.train(1);
        x.see(0, 0, 1);
        x.see(5, 1, 2);
        x.image(0);
        due("35", -1, x.mend(0));
        x.link(0, 1, 5);
        due("35 a link", 1, x.mend(0));
        x.train(2);
        due("35 a train", 0, x.mend(0));
        x.start(1, 3, 0);
        due("35 a start", 1, x.mend(0));
        x.see(6, 3, 1);
        due("35 seen", 2, x.mend(0));
        x.link(1, 3, 2);
        due("35 told again", 2, x.mend(0));
        x.link(1, 3, 1);
        due("35 told again", 1, x.mend(0));
        x.back(0);
        due("54 back", -1, x.mend(0));
        due("54 back", 2, x.count(5));
        due("54 back", 0, x.count(3));
        TrainDescriber y = new TrainDescriber();
        y.train(1);
        y.start(0, 3, 9);
        y.see(8, 3, 1);
        y.image(0);
        y.start(0, 3, 8);
        due("35 a start in that minute", 0, y.mend(0));
        y.back(0);
        due("54 the start's minute is back", -1, y.mend(0));
    }

    private static void clear() {
        TrainDescriber x = new TrainDescriber();
        due("37 nothing", 0, x.clear());
        x.train(1);
        x.start(0, 4, 100);
        x.see(50, 0, 0);
        x.see(60, 0, 0);
        x.link(0, 1, 1);
        due("35 a start behind", -1, x.mend(1));
        x.lies(99, 0);
        due("37", 2, x.clear());
        due("56 not told by clear", -1, x.status());
        due("37", 0, x.count(4));
        due("37", 0, x.count(5));
        due("37 links stay", 1, x.count(3));
        due("37 nothing seen", 1, x.mend(1));
        due("37 a minute ahead of those", 0, x.see(1, 0, 0));
        due("37 no trains", -1, x.mend(0));
        due("37 a train with no start", 0, x.train(1));
        due("37 a train with no start", 1, x.mend(1));
    }

    private static final int FAR = 1 << 20;

    private static int[][] shortest(int[][] links) {
        int[][] d = new int[12][12];
        for (int a = 0; a < 12; a++) {
            for (int b = 0; b < 12; b++) {
                d[a][b] = a == b ? 0 : links[a][b] < 0 ? FAR : links[a][b];
            }
        }
        boolean better = true;
        while (better) {
            better = false;
            for (int a = 0; a < 12; a++) {
                for (int b = 0; b < 12; b++) {
                    for (int c = 0; c < 12; c++) {
                        if (d[a][b] + d[b][c] < d[a][c]) {
                            d[a][c] = d[a][b] + d[b][c];
                            better = true;
                        }
                    }
                }
            }
        }
        return d;
    }

    private static void againstEachRow(Random random) {
        TrainDescriber x = new TrainDescriber();
        int berths = 2 + random.nextInt(4);
        int[][] links = new int[12][12];
        for (int[] l : links) {
            java.util.Arrays.fill(l, -1);
        }
        for (int i = random.nextInt(14); i > 0; i--) {
            int a = random.nextInt(berths);
            int b = random.nextInt(berths);
            int m = random.nextInt(6);
            if (a != b) {
                links[a][b] = m;
                x.link(a, b, m);
            }
        }
        int trains = 1 + random.nextInt(3);
        int[] names = new int[trains];
        int[][] starts = new int[trains][];
        for (int t = 0; t < trains; t++) {
            names[t] = 1 + random.nextInt(4);
            x.train(names[t]);
            if (random.nextInt(3) == 0) {
                starts[t] = new int[] {random.nextInt(berths), random.nextInt(8)};
                x.start(t, starts[t][0], starts[t][1]);
            }
        }
        int n = 1 + random.nextInt(trains == 3 ? 8 : 10);
        int[][] seen = new int[n][];
        int minute = 0;
        for (int i = 0; i < n; i++) {
            minute += random.nextInt(4);
            seen[i] = new int[] {minute, random.nextInt(berths), random.nextInt(5)};
            x.see(minute, seen[i][1], seen[i][2]);
        }
        tryAll(x, shortest(links), names, starts, seen);
    }

    private static void tryAll(TrainDescriber x, int[][] d, int[] names, int[][] starts, int[][] seen) {
        int n = seen.length;
        int k = names.length;
        int best = Integer.MAX_VALUE;
        int ways = 0;
        int[] first = null;
        int[] in = new int[n];
        int[] row = new int[n];
        boolean more = true;
        while (more) {
            int slips = slips(d, names, starts, seen, row);
            if (slips >= 0 && slips < best) {
                best = slips;
                ways = 0;
                first = row.clone();
                in = new int[n];
            }
            if (slips == best) {
                ways++;
                for (int i = 0; i < n; i++) {
                    in[i] |= 1 << row[i];
                }
            }
            int i = n - 1;
            while (i >= 0 && row[i] == k - 1) {
                row[i--] = 0;
            }
            more = i >= 0;
            if (more) {
                row[i]++;
            }
        }
        due("35 slips", first == null ? -1 : best, x.mend(0));
        due("35 ways", first == null ? -1 : ways, x.mend(1));
        for (int i = 0; i < n; i++) {
            due("36 first", first == null ? -1 : first[i], x.mended(i, 0));
            due("36 sure", first == null ? -1 : Integer.bitCount(in[i]) == 1 ? 1 : 0, x.mended(i, 1));
        }
    }

    private static int slips(int[][] d, int[] names, int[][] starts, int[][] seen, int[] row) {
        int[][] at = new int[names.length][];
        for (int t = 0; t < names.length; t++) {
            at[t] = starts[t] == null ? null : new int[] {starts[t][1], starts[t][0]};
        }
        int slips = 0;
        for (int i = 0; i < seen.length; i++) {
            int t = row[i];
            if (at[t] != null && d[at[t][1]][seen[i][1]] > seen[i][0] - at[t][0]) {
                return -1;
            }
            at[t] = seen[i];
            slips += seen[i][2] != 0 && seen[i][2] != names[t] ? 1 : 0;
        }
        return slips;
    }
}
