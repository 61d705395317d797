import java.util.ArrayList;
import java.util.Arrays;
import java.util.List;
import java.util.Random;

/** Promises 23 to 30: runs worked out by hand, then many against a plain model that plays each row whole. */
public final class RunPromisesTest {
    private static final Check CHECK = new Check("promises 23 to 30");

    public static void main(String[] args) {
        noRun();
        rows();
        byHand();
        swaps();
        hidden();
        watch();
        kept();
        Random random = new Random(23);
        for (int i = 0; i < 400; i++) {
            againstModel(random, i % 20 == 0 ? 60 : 1 + random.nextInt(14));
        }
        CHECK.end();
    }

    private static void due(String call, long want, long got) {
        CHECK.due(call, want, got);
    }

    private static void noRun() {
        TrainDescriber x = new TrainDescriber();
        due("24", -1, x.ends(0));
        for (int what = -1; what < 7; what++) {
            due("25", -1, x.proof(what));
            due("27", -1, x.swaps(what, 0));
            due("28", -1, x.two(what));
            due("30", -1, x.other(what));
        }
        due("26", -1, x.fails(0, 0));
        due("29", -1, x.watch());
        due("23 an empty tape", -6, x.run());
        due("23 status", -6, x.status());
        due("24 still", -1, x.ends(0));
        due("29 still", -1, x.watch());
    }

    private static void rows() {
        TrainDescriber x = new TrainDescriber();
        Check.tape(x, 0, 16, 0, 127, 0, 144, 0, 255, 0);
        due("23 none in it", -6, x.run());
        due("23 the tape is empty then", 0, x.count(7));
        Check.tape(x, 255, 128, 0, 16, 255, 143, 9, 144, 1, 0, 2, 15, 128);
        due("23 others passed by", 4, x.run());
        due("23 the tape is empty then", 0, x.count(7));
        due("23 status", 0, x.status());
        int[] many = new int[122];
        for (int i = 0; i < 122; i += 2) {
            many[i + 1] = 128;
        }
        Check.tape(x, many);
        due("23 61 events", -6, x.run());
        due("26 the latest one stays", 0, x.fails(3, 0));
        due("26 the latest one stays", -1, x.fails(4, 0));
        Check.tape(x, Arrays.copyOf(many, 121));
        due("23 60 events and a byte", 60, x.run());
        many[7] = 99;
        Check.tape(x, many);
        due("23 60 events and one passed by", 60, x.run());
        due("26 the last", 0, x.fails(59, 1));
        due("26 beyond", -1, x.fails(60, 1));
    }

    private static void byHand() {
        TrainDescriber x = new TrainDescriber();
        Check.rules(x, "step 0 to 1 at drop 1; step 1 to 2 at drop 2; clear 2 at pick 2");
        x.interpose(3, 0, 7);
        x.interpose(3, 5, 8);
        due("23", 3, Check.run(x, 1, 2, 102));
        due("24", 0, x.ends(0));
        due("24", 0, x.ends(2));
        due("24", 8, x.ends(5));
        due("24", -1, x.ends(12));
        due("24", -1, x.ends(-1));
        // Missing 1: 7 stays in 0; missing 2: in 1; missing the pick: in 2. A bob of 2 clears at once, of the
        // pick steps nothing; late 1: 7 in 1; late 2: the pick is repeated, so 7 stays in 2.
        int[][] want = {{2, 0, 2}, {2, 0, 2}, {2, 0, -1}};
        for (int event = 0; event < 3; event++) {
            for (int kind = 0; kind < 3; kind++) {
                due("26 " + event + " " + kind, want[event][kind], x.fails(event, kind));
            }
        }
        due("26", -1, x.fails(0, 3));
        due("26", -1, x.fails(0, -1));
        due("26", -1, x.fails(-1, 0));
        due("26", -1, x.fails(3, 0));
        due("25 held", 3, x.proof(0));
        due("25 shifted", 0, x.proof(1));
        due("25 lost", 5, x.proof(2));
        due("25 first", 0, x.proof(3));
        due("25", -1, x.proof(4));
        due("25", -1, x.proof(-1));
        due("23 on paper", 7, x.berth(0, 0));
        due("23 on paper", 0, x.track(1));
        due("23 on paper", 2, x.count(2));
        due("23 on paper", 3, x.count(8));
        due("23 on paper", -1, x.came(0, 0));
        due("30 no rules: all held", 8, x.other(0));
        due("30", 0, x.other(2));
        due("30 lost by this alone", 5, x.other(3));
        due("30 by the other alone", 0, x.other(4));
        due("30 not alike", 0, x.other(5));
    }

    private static void swaps() {
        TrainDescriber x = new TrainDescriber();
        // Which of two names comes to 2 and which to 3 hangs on what drops first.
        Check.rules(x, "step 0 to 2 at drop 1 if not full 2; step 0 to 3 at drop 1;"
                + "step 1 to 2 at drop 2 if not full 2; step 1 to 3 at drop 2");
        x.interpose(0, 0, 7);
        x.interpose(0, 1, 8);
        due("23", 2, Check.run(x, 1, 2));
        due("26 late", 1, x.fails(0, 2));
        due("27 how many", 1, x.swaps(0, 0));
        due("27 i is free", 1, x.swaps(0, -9));
        due("27 the first", 2, x.swaps(1, 0));
        due("27 no more", -1, x.swaps(1, 1));
        due("27 no such", -1, x.swaps(1, -1));
        due("27 no such", -1, x.swaps(2, 0));
        due("27 no such", -1, x.swaps(-1, 0));
        TrainDescriber z = new TrainDescriber();
        Check.rules(z, "step 0 to 2 at drop 1; step 1 to 0 at drop 1; step 2 to 1 at drop 1");
        z.interpose(0, 0, 7);
        z.interpose(0, 1, 8);
        Check.run(z, 1);
        due("27 the first fault of all, and one that bobs", 2, z.swaps(0, 0));
        due("27 the first fault of all", 0, z.swaps(1, 0));
        due("27 one that bobs", 1, z.swaps(1, 1));
        // A name that ends elsewhere is shifted, yet no swap: the berths are not full in both.
        TrainDescriber y = new TrainDescriber();
        Check.rules(y, "step 0 to 1 at drop 1");
        y.interpose(0, 0, 7);
        Check.run(y, 1);
        due("26 shifted", 1, y.fails(0, 0));
        due("27 no swap", 0, y.swaps(0, 0));
        due("25 no fault by late", -1, y.fails(0, 2));
    }

    private static void hidden() {
        TrainDescriber x = new TrainDescriber();
        // Either drop moves the name: only both missing show.
        Check.rules(x, "step 0 to 1 at drop 1; step 0 to 1 at drop 2");
        x.interpose(0, 0, 7);
        due("23", 3, Check.run(x, 9, 1, 2));
        due("28 held", 2, x.two(0));
        due("28 shifted", 1, x.two(1));
        due("28 lost", 0, x.two(2));
        due("28 hidden", 1, x.two(3));
        due("28 the first", 62, x.two(4));
        due("28", -1, x.two(5));
        due("28", -1, x.two(-1));
        due("25 nothing not held", -1, x.proof(3));
        due("29 nothing to be seen", 0, x.watch());
        Check.run(x, 1);
        due("28 no pair", 0, x.two(0));
        due("28 no pair", -1, x.two(4));
    }

    private static void watch() {
        TrainDescriber x = new TrainDescriber();
        Check.rules(x, "step 0 to 1 at drop 1; step 2 to 3 at drop 2");
        x.interpose(0, 0, 7);
        x.interpose(0, 2, 8);
        Check.run(x, 1, 2);
        due("29 one of each two, the lowest", 5, x.watch());
        due("29 asked again", 5, x.watch());
        TrainDescriber all = new TrainDescriber();
        StringBuilder text = new StringBuilder();
        int[] row = new int[12];
        for (int b = 0; b < 12; b++) {
            all.interpose(0, b, 1 + b);
            text.append(b == 0 ? "" : ";").append("clear ").append(b).append(" at drop ").append(b);
            row[b] = b;
        }
        Check.rules(all, text.toString());
        Check.run(all, row);
        due("29 all of them", 4095, all.watch());
        Check.rules(x, "step 0 to 1 at drop 1; step 1 to 2 at drop 2; clear 9 at drop 2");
        Check.run(x, 1, 2);
        x.interpose(0, 11, 5);
        due("29 as it was when it ran, all shown by the overrun name", 4, x.watch());
    }

    /** What is told of a run stays, whatever comes behind it. */
    private static void kept() {
        TrainDescriber x = new TrainDescriber();
        x.image(0);
        Check.rules(x, "step 0 to 1 at drop 1; step 0 to 1 at drop 2");
        x.use(1);
        Check.rules(x, "step 0 to 2 at drop 1");
        x.interpose(5, 0, 7);
        due("23 by set 1", 2, Check.run(x, 1, 2));
        Check.rules(x, "clear 0 at drop 1");
        x.use(0);
        Check.rules(x, "clear 0 at drop 1");
        x.event(6, 1, 1);
        x.back(0);
        due("24 kept", 7, x.ends(2));
        due("28 kept though asked late", 1, x.two(1));
        due("28 kept", 0, x.two(0));
        due("29 kept", 1, x.watch());
        due("30 kept", 5, x.other(0));
        due("30 kept", 0, x.other(5));
        due("25 kept", 1, x.proof(1));
        x.run();
        due("24 by a refused one too", 7, x.ends(2));
    }

    private record Clause(int from, int to, int track, int drops, String kind, int number, boolean not) {
        String text() {
            String head = to < 0 ? "clear " + from : "step " + from + " to " + to;
            String test = kind == null ? "" : " if " + (not ? "not " : "") + kind + " " + number;
            return head + " at " + (drops == 1 ? "drop " : "pick ") + track + test;
        }

        boolean isSo(Ground on) {
            if (kind == null) {
                return true;
            }
            boolean is = switch (kind) {
                case "track" -> on.tracks[number] == 1;
                case "signal" -> on.signals[number] == 1;
                default -> on.names[number] != 0;
            };
            return is != not;
        }
    }

    private static final class Ground {
        int[] names = new int[12];
        int[] tracks = new int[16];
        int[] signals = new int[8];

        int[] play(List<Clause> rules, List<int[]> row) {
            int[] n = names.clone();
            Ground g = new Ground();
            g.names = n;
            g.tracks = tracks.clone();
            g.signals = signals;
            for (int[] e : row) {
                if (g.tracks[e[0]] == e[1]) {
                    continue;
                }
                g.tracks[e[0]] = e[1];
                for (Clause c : rules) {
                    if (c.track != e[0] || c.drops != e[1] || !c.isSo(g) || n[c.from] == 0 || c.from == c.to) {
                        continue;
                    }
                    if (c.to >= 0) {
                        n[c.to] = n[c.from];
                    }
                    n[c.from] = 0;
                }
            }
            return n;
        }
    }

    private static List<int[]> with(List<int[]> row, int i, int kind) {
        List<int[]> out = new ArrayList<>(row);
        int[] e = row.get(i);
        if (kind == 0) {
            out.remove(i);
        } else if (kind == 1) {
            out.add(i + 1, e);
            out.add(i + 1, new int[] {e[0], 1 - e[1]});
        } else {
            out.set(i, row.get(i + 1));
            out.set(i + 1, e);
        }
        return out;
    }

    private static int verdict(int[] base, int[] got) {
        if (Arrays.equals(base, got)) {
            return 0;
        }
        int[] a = base.clone();
        int[] b = got.clone();
        Arrays.sort(a);
        Arrays.sort(b);
        return Arrays.equals(a, b) ? 1 : 2;
    }

    private static int differing(int[] base, int[] got) {
        int bits = 0;
        for (int b = 0; b < 12; b++) {
            bits |= base[b] != got[b] ? 1 << b : 0;
        }
        return bits;
    }

    private static List<Clause> randomRules(Random random, int berths, int tracks) {
        List<Clause> rules = new ArrayList<>();
        int many = 1 + random.nextInt(10);
        for (int i = 0; i < many; i++) {
            String[] kinds = {null, null, "track", "signal", "full"};
            String kind = kinds[random.nextInt(5)];
            int to = random.nextInt(5) == 0 ? -1 : random.nextInt(berths);
            rules.add(new Clause(random.nextInt(berths), to, random.nextInt(tracks), random.nextInt(4) == 0 ? 0 : 1,
                    kind, random.nextInt("signal".equals(kind) ? 8 : berths), random.nextBoolean()));
        }
        return rules;
    }

    private static int load(TrainDescriber x, List<Clause> rules) {
        List<String> texts = new ArrayList<>();
        for (Clause c : rules) {
            texts.add(c.text());
        }
        return Check.rules(x, String.join(";", texts));
    }

    private static void againstModel(Random random, int events) {
        int berths = 3 + random.nextInt(10);
        int tracks = 2 + random.nextInt(15);
        TrainDescriber x = new TrainDescriber();
        Ground ground = new Ground();
        List<Clause> other = randomRules(random, berths, tracks);
        List<Clause> mine = randomRules(random, berths, tracks);
        for (int t = 0; t < tracks; t++) {
            ground.tracks[t] = random.nextInt(4) == 0 ? 1 : 0;
            x.event(0, t, ground.tracks[t]);
        }
        for (int s = 0; s < 8; s++) {
            ground.signals[s] = random.nextInt(2);
            x.signal(s, ground.signals[s]);
        }
        for (int b = 0; b < berths; b++) {
            ground.names[b] = random.nextInt(3) == 0 ? 0 : 1 + random.nextInt(random.nextBoolean() ? 3 : 999);
            if (ground.names[b] != 0) {
                x.interpose(0, b, ground.names[b]);
            }
        }
        int set = random.nextInt(2);
        x.use(1 - set);
        due("23 rules", other.size(), load(x, other));
        x.use(set);
        due("23 rules", mine.size(), load(x, mine));
        List<int[]> row = new ArrayList<>();
        int[] told = new int[events];
        for (int i = 0; i < events; i++) {
            row.add(new int[] {random.nextInt(tracks), random.nextInt(3) == 0 ? 0 : 1});
            told[i] = row.get(i)[0] + (row.get(i)[1] == 1 ? 0 : 100);
        }
        due("23 run", events, Check.run(x, told));
        compare(x, ground, mine, other, row);
    }

    private static void compare(TrainDescriber x, Ground ground, List<Clause> mine, List<Clause> other, List<int[]> row) {
        int[] base = ground.play(mine, row);
        int[] otherBase = ground.play(other, row);
        for (int b = 0; b < 12; b++) {
            due("24 ends", base[b], x.ends(b));
        }
        int[] tally = new int[3];
        int[] otherTally = new int[5];
        List<Integer> swaps = new ArrayList<>();
        List<Integer> masks = new ArrayList<>();
        int first = -1;
        for (int i = 0; i < row.size(); i++) {
            for (int kind = 0; kind < (i == row.size() - 1 ? 2 : 3); kind++) {
                int[] got = ground.play(mine, with(row, i, kind));
                int v = verdict(base, got);
                int w = verdict(otherBase, ground.play(other, with(row, i, kind)));
                due("26 fails", v, x.fails(i, kind));
                tally[v]++;
                otherTally[w]++;
                otherTally[3] += v == 2 && w != 2 ? 1 : 0;
                otherTally[4] += w == 2 && v != 2 ? 1 : 0;
                first = first < 0 && v != 0 ? 3 * i + kind : first;
                int mask = differing(base, got);
                masks.add(mask);
                if (v == 1 && Integer.bitCount(mask) == 2 && bothFull(mask, base) && bothFull(mask, got)) {
                    swaps.add(3 * i + kind);
                }
            }
        }
        for (int what = 0; what < 3; what++) {
            due("25 proof", tally[what], x.proof(what));
        }
        due("25 first", first, x.proof(3));
        for (int what = 0; what < 5; what++) {
            due("30 other", otherTally[what], x.other(what));
        }
        due("30 alike", Arrays.equals(base, otherBase) ? 1 : 0, x.other(5));
        due("27 swaps", swaps.size(), x.swaps(0, 0));
        for (int i = 0; i < swaps.size(); i++) {
            due("27 swap", swaps.get(i), x.swaps(1, i));
        }
        due("27 no more", -1, x.swaps(1, swaps.size()));
        due("29 watch", fewest(masks), x.watch());
        comparePairs(x, ground, mine, row, base);
    }

    private static boolean bothFull(int mask, int[] names) {
        for (int b = 0; b < 12; b++) {
            if ((mask >> b & 1) != 0 && names[b] == 0) {
                return false;
            }
        }
        return true;
    }

    private static int fewest(List<Integer> masks) {
        for (int size = 0; size <= 12; size++) {
            for (int s = 0; s < 4096; s++) {
                int set = s;
                if (Integer.bitCount(s) == size && masks.stream().allMatch(m -> m == 0 || (m & set) != 0)) {
                    return s;
                }
            }
        }
        return -1;
    }

    private static void comparePairs(TrainDescriber x, Ground ground, List<Clause> mine, List<int[]> row, int[] base) {
        int[] tally = {0, 0, 0, 0, -1};
        for (int i = 0; i < row.size(); i++) {
            for (int k = i + 1; k < row.size(); k++) {
                int v = verdict(base, ground.play(mine, with(with(row, k, 0), i, 0)));
                tally[v]++;
                if (v != 0 && x.fails(i, 0) == 0 && x.fails(k, 0) == 0) {
                    tally[3]++;
                    tally[4] = tally[4] < 0 ? 60 * i + k : tally[4];
                }
            }
        }
        for (int what = 0; what < 5; what++) {
            due("28 two", tally[what], x.two(what));
        }
    }
}
