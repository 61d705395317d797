import java.util.Arrays;
import java.util.HashMap;
import java.util.List;
import java.util.Map;

/** MENDINGS: the fewest slips and how often, with the first trains of a row given, or one of them. */
final class PlainMending {
    private final List<Integer> trains;
    private final Map<Integer, int[]> starts;
    private final List<int[]> seen;
    private final Map<Integer, Integer> links;

    PlainMending(List<Integer> trains, Map<Integer, int[]> starts, List<int[]> seen, Map<Integer, Integer> links) {
        this.trains = trains;
        this.starts = starts;
        this.seen = seen;
        this.links = links;
    }

    /** The berths, as bits, to which one comes by links in so many minutes: each minute left is carried on. */
    static int reached(Map<Integer, Integer> links, int from, int minutes) {
        int[] left = new int[12];
        Arrays.fill(left, -1);
        left[from] = minutes;
        for (boolean more = true; more;) {
            more = false;
            for (var link : links.entrySet()) {
                int a = link.getKey() / 100;
                int b = link.getKey() % 100;
                if (left[a] - link.getValue() > left[b] && left[a] >= link.getValue()) {
                    left[b] = left[a] - link.getValue();
                    more = true;
                }
            }
        }
        int bits = 0;
        for (int b = 0; b < 12; b++) {
            bits |= left[b] >= 0 ? 1 << b : 0;
        }
        return bits;
    }

    private boolean can(int[] from, int[] to) {
        return from == null || to[0] >= from[0] && (reached(links, from[1], to[0] - from[0]) >> to[1] & 1) == 1;
    }

    /** Fewest slips and how many mendings have them; given[i], if it is there and not -1, is the i-th train. */
    long[] best(int[] given) {
        Map<List<Integer>, long[]> open = new HashMap<>();
        open.put(List.of(-1, -1, -1), new long[] {0, 1});
        for (int i = 0; i < seen.size(); i++) {
            Map<List<Integer>, long[]> next = new HashMap<>();
            for (var state : open.entrySet()) {
                for (int t = 0; t < trains.size(); t++) {
                    int last = state.getKey().get(t);
                    boolean wanted = i >= given.length || given[i] == -1 || given[i] == t;
                    if (wanted && can(last < 0 ? starts.get(t) : seen.get(last), seen.get(i))) {
                        Integer[] lasts = state.getKey().toArray(new Integer[0]);
                        lasts[t] = i;
                        int name = seen.get(i)[2];
                        long slips = state.getValue()[0] + (name != 0 && name != trains.get(t) ? 1 : 0);
                        next.merge(List.of(lasts), new long[] {slips, state.getValue()[1]}, PlainMending::better);
                    }
                }
            }
            open = next;
        }
        return open.values().stream().reduce(PlainMending::better).orElse(null);
    }

    private static long[] better(long[] a, long[] b) {
        if (a[0] != b[0]) {
            return a[0] < b[0] ? a : b;
        }
        return new long[] {a[0], a[1] + b[1]};
    }

    /** The train of the i-th in the first best row, found one behind the other. */
    int first(int i) {
        long[] best = best(new int[0]);
        if (best == null) {
            return -1;
        }
        int[] row = {};
        for (int k = 0; k <= i; k++) {
            row = Arrays.copyOf(row, k + 1);
            while (!isBest(best, best(row))) {
                row[k]++;
            }
        }
        return row[i];
    }

    private static boolean isBest(long[] best, long[] got) {
        return got != null && got[0] == best[0];
    }

    int sure(int i) {
        long[] best = best(new int[0]);
        if (best == null) {
            return -1;
        }
        int ways = 0;
        int[] given = new int[i + 1];
        Arrays.fill(given, -1);
        for (int t = 0; t < trains.size(); t++) {
            given[i] = t;
            ways += isBest(best, best(given)) ? 1 : 0;
        }
        return ways == 1 ? 1 : 0;
    }
}
