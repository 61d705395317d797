import java.lang.management.ManagementFactory;
import java.lang.reflect.Method;
import java.lang.reflect.Modifier;
import java.util.ArrayList;
import java.util.Comparator;
import java.util.List;
import java.util.Random;

/** Any calls with any numbers: none throws, the same calls answer the same, and little room is taken. */
public final class AnyCallsTest {
    private static final int[] EDGES = {Integer.MIN_VALUE, Integer.MAX_VALUE, -2, -1, 0, 1, 2, 3, 5, 7, 8, 11, 12, 15,
        16, 30, 31, 60, 61, 99, 100, 400, 999, 1000, 1023, 1024, 9999, 10000};
    private static final String[] WORDS = {"step ", "to ", "clear ", "at ", "drop ", "pick ", "if ", "or ", "and ",
        "not ", "(", ")", ";", "track ", "signal ", "full ", "1 ", "12 ", "7", " ", "A", "step 0 to 1 at drop 1 ",
        "clear 1 at pick 1 ", "if full 1 "};
    private static final Check CHECK = new Check("any calls");

    public static void main(String[] args) throws Exception {
        List<Method> methods = face();
        for (int seed = 0; seed < 300; seed++) {
            List<Integer> first = play(methods, seed);
            List<Integer> again = play(methods, seed);
            for (int i = 0; i < first.size(); i++) {
                CHECK.due("seed " + seed + ", call " + i, first.get(i), again.get(i));
            }
        }
        room();
        CHECK.end();
    }

    /** The methods of the document's face, and no other member. */
    private static List<Method> face() {
        List<Method> methods = new ArrayList<>();
        for (Method m : TrainDescriber.class.getDeclaredMethods()) {
            if (Modifier.isPublic(m.getModifiers())) {
                methods.add(m);
                CHECK.due("return type of " + m, 1, m.getReturnType() == int.class ? 1 : 0);
            } else {
                CHECK.due("not private: " + m, 1, Modifier.isPrivate(m.getModifiers()) ? 1 : 0);
            }
        }
        CHECK.due("methods", 55, methods.size());
        CHECK.due("public fields", 1, TrainDescriber.class.getFields().length);
        CHECK.due("constructors", 1, TrainDescriber.class.getConstructors().length);
        methods.sort(Comparator.comparing(Method::getName));
        return methods;
    }

    private static List<Integer> play(List<Method> methods, int seed) throws Exception {
        Random r = new Random(seed);
        TrainDescriber x = new TrainDescriber();
        List<Integer> answers = new ArrayList<>();
        int minute = 0;
        for (int i = 0; i < 512; i++) {
            if (r.nextInt(30) == 0) {
                fill(x, r);
            }
            Method m = methods.get(r.nextInt(methods.size()));
            Object[] args = new Object[m.getParameterCount()];
            for (int a = 0; a < args.length; a++) {
                int kind = r.nextInt(8);
                args[a] = kind == 0 ? EDGES[r.nextInt(EDGES.length)] : kind == 1 ? minute : r.nextInt(kind == 2 ? 100 : 12);
            }
            minute += r.nextInt(3) == 0 ? 1 : 0;
            answers.add((Integer) m.invoke(x, args));
        }
        return answers;
    }

    private static void fill(TrainDescriber x, Random r) {
        if (r.nextBoolean()) {
            StringBuilder text = new StringBuilder();
            for (int i = r.nextInt(40); i > 0; i--) {
                text.append(WORDS[r.nextInt(WORDS.length)]);
            }
            Check.tape(x, Check.bytes(text.substring(0, Math.min(text.length(), 400))));
            if (r.nextBoolean()) {
                x.rules();
            }
        } else {
            int[] row = new int[r.nextInt(130)];
            for (int i = 0; i < row.length; i++) {
                row[i] = r.nextInt(8) == 0 ? r.nextInt(256) : r.nextInt(2) * 128 + r.nextInt(16);
            }
            Check.tape(x, row);
            if (r.nextBoolean()) {
                x.run();
            }
        }
    }

    /** An object with all its images, its run and its mending, and then no call that makes anything. */
    private static void room() {
        var bean = (com.sun.management.ThreadMXBean) ManagementFactory.getThreadMXBean();
        TrainDescriber warm = new TrainDescriber();
        dear(warm);
        long before = bean.getCurrentThreadAllocatedBytes();
        TrainDescriber x = new TrainDescriber();
        dear(x);
        long made = bean.getCurrentThreadAllocatedBytes() - before;
        CHECK.due("an object's room of " + made + " bytes is small", 1, made < 300000 ? 1 : 0);
        before = bean.getCurrentThreadAllocatedBytes();
        for (int i = 0; i < 50; i++) {
            dear(x);
        }
        long more = bean.getCurrentThreadAllocatedBytes() - before;
        CHECK.due("calls make nothing more, but " + more + " bytes", 1, more < 4096 ? 1 : 0);
    }

    private static void dear(TrainDescriber x) {
        x.feed(0x00810082, 0x00010002, 0x00810082, 0x00010002, 0x00810082);
        x.run();
        x.two(0);
        x.watch();
        x.other(3);
        x.feed(0x636c6561, 0x72203120, 0x61742064, 0x726f7020, 0x31202020);
        x.rules();
        x.interpose(9, 0, 5);
        x.event(9, 1, 1);
        x.image(0);
        x.image(1);
        x.back(0);
        x.train(5);
        x.see(9, 1, 5);
        x.mend(0);
        x.found(7, 7);
        x.lost(7, 0, 0);
    }
}
