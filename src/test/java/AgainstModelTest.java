import java.lang.reflect.Method;
import java.util.ArrayList;
import java.util.HashMap;
import java.util.List;
import java.util.Map;
import java.util.Random;

/** Rows of calls on the class and on the plain model, numbers often at an edge, and whole runs: all answers are alike. */
public final class AgainstModelTest {
    private static final int SEEDS = 420;
    private static final int RUNS = 400;
    private static final int CALLS = 512;
    private static final int FAR = Integer.MAX_VALUE;

    /** Each call with the kinds of its numbers, as one sign each. */
    private static final String[] CALLS_WITH = {"lies bT", "signal sf", "event mtf", "interpose mbn", "cancel mb",
        "split mbbn", "join mbb", "kin nf", "work bMM", "closed bM", "berth bw", "track t", "since t", "came iw",
        "held MLT", "log iw", "end e", "use f", "fault ", "ends b", "proof w", "fails iw", "swaps fi", "two w",
        "watch ", "other w", "link bbl", "train n", "start rBM", "see vbN", "mend f", "mended if", "clear ",
        "due nbM", "delay n", "station bS", "platform n", "way nI", "truth bw", "found nM", "lost Mfi", "clock xc",
        "code xkn", "word xmbk", "bad bD", "forget m", "could bfi", "alarms w", "image f", "back f", "count W",
        "status ", "rules ", "run ", "feed aaaaa"};

    private static final Map<Character, int[]> BOUNDS = new HashMap<>();

    static {
        String signs = "b0 11,B-1 11,t0 15,T-1 15,s0 7,f0 1,M0 9999,n1 999,N0 999,w0 5,W0 11,i0 99,I-1 99,l0 60,"
                + "r0 2,S-1 5,x0 2,c-30 30,k0 99,D0 1023,L0 9999,e0 400,m0 9999,v0 9999";
        for (String sign : signs.split(",")) {
            String[] two = sign.substring(1).split(" ");
            BOUNDS.put(sign.charAt(0), new int[] {Integer.parseInt(two[0]), Integer.parseInt(two[1])});
        }
    }

    private final Random random;
    private final TrainDescriber real = new TrainDescriber();
    private final PlainModel plain = new PlainModel();
    private final StringBuilder told = new StringBuilder();
    private final int names;
    private int calls;
    private int seenMinute;
    private boolean differs;

    private AgainstModelTest(int seed) {
        random = new Random(seed);
        names = 2 + random.nextInt(random.nextBoolean() ? 6 : 40);
    }

    public static void main(String[] args) throws Exception {
        Check check = new Check("against the model");
        for (int seed = 0; seed < SEEDS; seed++) {
            AgainstModelTest test = new AgainstModelTest(seed);
            test.play();
            check.due("seed " + seed + test.told, 0, test.differs ? 1 : 0);
        }
        for (int seed = 0; seed < RUNS; seed++) {
            AgainstModelTest test = new AgainstModelTest(seed);
            test.playRun();
            check.due("run of seed " + seed + test.told, 0, test.differs ? 1 : 0);
        }
        check.end();
    }

    /** A board, two sets of rules and a run, of which all is asked. */
    private void playRun() throws Exception {
        for (int i = 0; i < 60; i++) {
            callWith(i % 3 == 0 ? "event mtf" : i % 3 == 1 ? "interpose mbn" : "signal sf");
        }
        for (int set = 0; set < 2; set++) {
            call("use", set);
            feed(textBytes());
            call("rules");
        }
        feed(rowBytes());
        call("run");
        callWith("use f");
        for (int i = 0; i < 61; i++) {
            for (int kind = 0; kind < 3; kind++) {
                call("fails", i, kind);
            }
        }
        for (int i = 0; i < 13; i++) {
            call("ends", i);
            call("proof", i);
            call("swaps", 1, i);
            call("other", i);
        }
        for (int what = 0; what < 5; what++) {
            call("two", what);
        }
        call("swaps", 0, 0);
        call("watch");
    }

    private void play() throws Exception {
        List<String> hot = new ArrayList<>();
        for (int i = 0; i < 10; i++) {
            hot.add(CALLS_WITH[random.nextInt(CALLS_WITH.length)]);
        }
        while (calls < CALLS && !differs) {
            int dice = random.nextInt(40);
            if (dice == 0) {
                feed(textBytes());
                call("rules");
                call("fault");
            } else if (dice == 1 && random.nextInt(3) == 0) {
                feed(rowBytes());
                call("run");
            } else {
                String with = dice < 20 ? hot.get(random.nextInt(hot.size()))
                        : CALLS_WITH[random.nextInt(CALLS_WITH.length)];
                if (!isDear(with) || random.nextInt(6) == 0) {
                    callWith(with);
                }
            }
        }
    }

    /** The model tries everything out, so what it is slow at is asked seldom. */
    private static boolean isDear(String with) {
        return with.startsWith("two") || with.startsWith("watch") || with.startsWith("mended")
                || with.startsWith("clear") || with.startsWith("back");
    }

    private void callWith(String with) throws Exception {
        int blank = with.indexOf(' ');
        String signs = with.substring(blank + 1);
        int[] numbers = new int[signs.length()];
        for (int i = 0; i < numbers.length; i++) {
            numbers[i] = number(signs.charAt(i));
        }
        call(with.substring(0, blank), numbers);
    }

    private int number(char sign) {
        int[] bounds = BOUNDS.get(sign);
        int dice = random.nextInt(100);
        if (bounds == null) {
            return random.nextInt();
        }
        if (dice < 5) {
            int[] edges = {bounds[0] - 1, bounds[0], bounds[1], bounds[1] + 1, FAR, -FAR - 1};
            return edges[random.nextInt(edges.length)];
        }
        int latest = plain.count(8);
        switch (sign) {
            case 'n':
            case 'N':
                return bounds[0] + random.nextInt(names);
            case 'm':
                return Math.max(0, latest - (dice < 10 ? 1 : 0)) + (dice < 40 ? 1 : 0);
            case 'v':
                seenMinute += random.nextInt(4);
                return seenMinute = dice < 8 ? 0 : seenMinute % 9999;
            case 'M':
                return Math.max(0, Math.min(9999, latest + random.nextInt(41) - 20));
            case 'L':
                return random.nextInt(30);
            case 'i':
            case 'I':
                return bounds[0] + random.nextInt(dice < 60 ? 6 : 70);
            case 'D':
                return random.nextInt(1024) & random.nextInt(1024);
            case 'k':
                return random.nextInt(5);
            case 'b':
                return random.nextInt(dice < 50 ? 5 : 12);
            case 't':
                return random.nextInt(dice < 50 ? 4 : 16);
            default:
                return bounds[0] + random.nextInt(bounds[1] - bounds[0] + 1);
        }
    }

    private void call(String name, int... numbers) throws Exception {
        calls++;
        Class<?>[] types = new Class<?>[numbers.length];
        Object[] boxed = new Object[numbers.length];
        for (int i = 0; i < numbers.length; i++) {
            types[i] = int.class;
            boxed[i] = numbers[i];
        }
        Method one = TrainDescriber.class.getMethod(name, types);
        Method other = PlainModel.class.getMethod(name, types);
        int got = (Integer) one.invoke(real, boxed);
        int want = (Integer) other.invoke(plain, boxed);
        if (got != want) {
            differs = true;
            told.append(", call ").append(calls).append(", ").append(name).append(java.util.Arrays.toString(numbers))
                    .append(": ").append(got).append(", the model says ").append(want);
        }
    }

    private void feed(List<Integer> bytes) throws Exception {
        call("end", 0);
        for (int i = 0; i < bytes.size(); i += 20) {
            int[] five = new int[5];
            for (int k = 0; k < 20; k++) {
                five[k / 4] = five[k / 4] << 8 | (i + k < bytes.size() ? bytes.get(i + k) : 0);
            }
            call("feed", five);
        }
        call("end", bytes.size());
    }

    private List<Integer> rowBytes() {
        List<Integer> bytes = new ArrayList<>();
        int events = random.nextInt(4) == 0 ? 55 + random.nextInt(9) : random.nextInt(16);
        int tracks = 1 + random.nextInt(16);
        for (int i = 0; i < events; i++) {
            bytes.add(random.nextInt(256));
            bytes.add(random.nextInt(20) == 0 ? random.nextInt(256)
                    : random.nextInt(tracks) + (random.nextInt(3) == 0 ? 0 : 128));
        }
        if (random.nextInt(4) == 0) {
            bytes.add(128);
        }
        return bytes;
    }

    private List<Integer> textBytes() {
        StringBuilder text = new StringBuilder();
        int clauses = 1 + random.nextInt(random.nextInt(5) == 0 ? 17 : 8);
        for (int i = 0; i < clauses; i++) {
            text.append(i == 0 ? "" : ";").append(clause());
        }
        List<Integer> bytes = new ArrayList<>();
        for (int i = 0; i < Math.min(400, text.length()); i++) {
            bytes.add((int) text.charAt(i));
        }
        if (random.nextInt(5) == 0) {
            bytes.set(random.nextInt(bytes.size()), random.nextInt(3) == 0 ? 32 : random.nextInt(256));
        }
        return bytes;
    }

    private String clause() {
        int top = random.nextInt(3) == 0 ? 12 : 5;
        String head = random.nextInt(4) == 0 ? "clear " + random.nextInt(top)
                : "step " + random.nextInt(top) + "to " + random.nextInt(top);
        String at = " at " + (random.nextInt(3) == 0 ? "pick" : "drop") + random.nextInt(random.nextInt(3) == 0 ? 16 : 4);
        return head + at + (random.nextInt(2) == 0 ? "" : "if " + test(0));
    }

    private String test(int depth) {
        int dice = random.nextInt(depth > 3 ? 3 : 8);
        switch (dice) {
            case 0:
                return "track " + random.nextInt(random.nextInt(9) == 0 ? 17 : 5);
            case 1:
                return "signal " + random.nextInt(random.nextInt(9) == 0 ? 9 : 8);
            case 2:
                return "full " + random.nextInt(random.nextInt(9) == 0 ? 13 : 5);
            case 3:
                return "not " + test(depth + 1);
            case 4:
                return "(" + test(depth + 1) + ")";
            case 5:
                return test(depth + 1) + " or " + test(depth + 1);
            case 6:
                return test(depth + 1) + " and " + test(depth + 1);
            default:
                return "not(" + test(depth + 1) + ")";
        }
    }
}
