import java.util.ArrayList;
import java.util.Arrays;
import java.util.List;

/** A RUN with each FAULT played whole, from its first event to its last. */
final class PlainRun {
    interface Player {
        int[] ends(List<int[]> row);
    }

    final int[] ends;
    private final List<int[]> row;
    private final Player player;
    /** By 3 times an event and the kind; null where there is no such fault. */
    private final int[][] faulty;

    PlainRun(List<int[]> row, Player player) {
        this.row = row;
        this.player = player;
        ends = player.ends(row);
        faulty = new int[3 * row.size()][];
        for (int i = 0; i < row.size(); i++) {
            for (int kind = 0; kind < 3; kind++) {
                if (kind < 2 || i + 1 < row.size()) {
                    faulty[3 * i + kind] = player.ends(with(i, kind));
                }
            }
        }
    }

    private List<int[]> with(int i, int kind) {
        List<int[]> out = new ArrayList<>(row);
        int[] e = out.remove(i);
        if (kind == 1) {
            out.addAll(i, List.of(e, new int[] {e[0], 1 - e[1]}, e));
        } else if (kind == 2) {
            out.add(i + 1, e);
        }
        return out;
    }

    private int verdict(int[] got) {
        if (Arrays.equals(got, ends)) {
            return 0;
        }
        int[] a = got.clone();
        int[] b = ends.clone();
        Arrays.sort(a);
        Arrays.sort(b);
        return Arrays.equals(a, b) ? 1 : 2;
    }

    int becomes(int event, int kind) {
        return event >= row.size() || faulty[3 * event + kind] == null ? -1 : verdict(faulty[3 * event + kind]);
    }

    int many(int verdict) {
        return (int) Arrays.stream(faulty).filter(f -> f != null && verdict(f) == verdict).count();
    }

    int firstNotHeld() {
        for (int f = 0; f < faulty.length; f++) {
            if (faulty[f] != null && verdict(faulty[f]) != 0) {
                return f;
            }
        }
        return -1;
    }

    private List<Integer> otherwise(int[] got) {
        List<Integer> berths = new ArrayList<>();
        for (int b = 0; b < 12; b++) {
            if (got[b] != ends[b]) {
                berths.add(b);
            }
        }
        return berths;
    }

    List<Integer> swaps() {
        List<Integer> swaps = new ArrayList<>();
        for (int f = 0; f < faulty.length; f++) {
            if (faulty[f] == null || verdict(faulty[f]) != 1) {
                continue;
            }
            int[] got = faulty[f];
            List<Integer> berths = otherwise(got);
            if (berths.size() == 2 && berths.stream().allMatch(b -> got[b] != 0 && ends[b] != 0)) {
                swaps.add(f);
            }
        }
        return swaps;
    }

    int[] two() {
        int[] told = {0, 0, 0, 0, -1};
        for (int i = 0; i < row.size(); i++) {
            for (int k = i + 1; k < row.size(); k++) {
                List<int[]> out = new ArrayList<>(row);
                out.remove(k);
                out.remove(i);
                int verdict = verdict(player.ends(out));
                told[verdict]++;
                if (verdict != 0 && becomes(i, 0) == 0 && becomes(k, 0) == 0) {
                    told[3]++;
                    told[4] = told[4] < 0 ? 60 * i + k : told[4];
                }
            }
        }
        return told;
    }

    int watch() {
        int best = -1;
        for (int set = 4095; set >= 0; set--) {
            boolean shows = true;
            for (int[] got : faulty) {
                boolean seen = false;
                for (int b = 0; got != null && b < 12; b++) {
                    seen |= got[b] != ends[b] && (set >> b & 1) == 1;
                }
                shows &= got == null || seen || verdict(got) == 0;
            }
            if (shows && (best < 0 || Integer.bitCount(set) <= Integer.bitCount(best))) {
                best = set;
            }
        }
        return best;
    }

    int lostNotBy(PlainRun other) {
        int many = 0;
        for (int f = 0; f < faulty.length; f++) {
            if (faulty[f] != null && verdict(faulty[f]) == 2 && other.verdict(other.faulty[f]) != 2) {
                many++;
            }
        }
        return many;
    }
}
