import java.util.ArrayList;
import java.util.Arrays;
import java.util.Collections;
import java.util.HashMap;
import java.util.HashSet;
import java.util.List;
import java.util.Map;
import java.util.Set;
import java.util.TreeSet;

/**
 * The document once more, sentence by sentence, with lists and maps and no thought of room or speed: what it answers is
 * what the class has to answer. It shares no code with the class, yet the same reading of what the document leaves open.
 */
final class PlainModel {
    /** All that an image keeps. */
    private static final class Kept {
        int[] name = new int[12];
        int[] lies = new int[12];
        int[] bad = new int[12];
        int[] station = new int[12];
        Set<Integer> occupied = new HashSet<>();
        Set<Integer> off = new HashSet<>();
        Map<Integer, Integer> since = new HashMap<>();
        List<int[]> events = new ArrayList<>();
        List<int[]> log = new ArrayList<>();
        List<int[]> works = new ArrayList<>();
        List<int[]> timetable = new ArrayList<>();
        List<int[]> seen = new ArrayList<>();
        List<Integer> trains = new ArrayList<>();
        Map<Integer, int[]> starts = new HashMap<>();
        Map<Integer, Integer> links = new HashMap<>();
        Map<Integer, Integer> splitFrom = new HashMap<>();
        Map<Integer, Integer> joinedTo = new HashMap<>();
        Map<Integer, Integer> codes = new HashMap<>();
        int[] clock = new int[3];
        PlainText[] rules = {PlainText.NONE, PlainText.NONE};
        int used;
        int latest;
        int trespasses;

        Kept() {
            Arrays.fill(lies, -1);
            Arrays.fill(station, -1);
        }

        Kept copy() {
            Kept k = new Kept();
            k.name = name.clone();
            k.lies = lies.clone();
            k.bad = bad.clone();
            k.station = station.clone();
            k.occupied = new HashSet<>(occupied);
            k.off = new HashSet<>(off);
            k.since = new HashMap<>(since);
            k.events = new ArrayList<>(events);
            k.log = new ArrayList<>(log);
            k.works = new ArrayList<>(works);
            k.timetable = new ArrayList<>(timetable);
            k.seen = new ArrayList<>(seen);
            k.trains = new ArrayList<>(trains);
            k.starts = new HashMap<>(starts);
            k.links = new HashMap<>(links);
            k.splitFrom = new HashMap<>(splitFrom);
            k.joinedTo = new HashMap<>(joinedTo);
            k.codes = new HashMap<>(codes);
            k.clock = clock.clone();
            k.rules = rules.clone();
            k.used = used;
            k.latest = latest;
            k.trespasses = trespasses;
            return k;
        }

        /** What happened to names by an event; each a row of kind, from, to and name. */
        List<int[]> event(PlainText by, int track, boolean drops) {
            List<int[]> happened = new ArrayList<>();
            if (occupied.contains(track) == drops) {
                return happened;
            }
            if (drops) {
                occupied.add(track);
            } else {
                occupied.remove(track);
            }
            for (PlainText.Clause c : by.clauses) {
                if (c.track != track || c.drops != drops || !c.isSo(occupied, off, name) || name[c.from] == 0) {
                    continue;
                }
                int moving = name[c.from];
                if (c.to < 0) {
                    happened.add(new int[] {1, c.from, -1, moving});
                    name[c.from] = 0;
                } else if (c.to != c.from) {
                    if (name[c.to] != 0) {
                        happened.add(new int[] {4, c.to, -1, name[c.to]});
                    }
                    happened.add(new int[] {0, c.from, c.to, moving});
                    name[c.to] = moving;
                    name[c.from] = 0;
                }
            }
            return happened;
        }
    }

    private Kept now = new Kept();
    private final Kept[] images = new Kept[2];
    private final List<Integer> tape = new ArrayList<>();
    private int fault = -1;
    private int status;
    private PlainRun run;
    private PlainRun otherRun;

    private static boolean in(int n, int low, int high) {
        return n >= low && n <= high;
    }

    private static boolean berthOk(int b) {
        return in(b, 0, 11);
    }

    private static boolean minuteOk(int m) {
        return in(m, 0, 9999);
    }

    private static boolean nameOk(int n) {
        return in(n, 1, 999);
    }

    private int no(int why) {
        status = why;
        return why;
    }

    private int yes(int answer) {
        status = 0;
        return answer;
    }

    private void happened(int kind, int from, int to, int name) {
        now.log.add(new int[] {now.latest, kind, from, to, name});
        if ((kind == 0 || kind == 2 || kind == 6) && closed(to, now.latest) == 1) {
            now.trespasses++;
        }
    }

    /** The latest 100 of the log, the oldest first. */
    private List<int[]> log() {
        return now.log.subList(Math.max(0, now.log.size() - 100), now.log.size());
    }

    private List<int[]> logLatestFirst() {
        List<int[]> rows = new ArrayList<>(log());
        Collections.reverse(rows);
        return rows;
    }

    private static boolean comes(int[] row) {
        return row[1] == 0 || row[1] == 2 || row[1] == 6;
    }

    public int lies(int berth, int track) {
        if (!berthOk(berth) || !in(track, -1, 15)) {
            return no(-1);
        }
        int was = now.lies[berth];
        now.lies[berth] = track;
        return yes(was);
    }

    public int signal(int signal, int off) {
        if (!in(signal, 0, 7) || !in(off, 0, 1)) {
            return no(-1);
        }
        boolean was = off == 1 ? !now.off.add(signal) : now.off.remove(signal);
        return yes(was ? 1 : 0);
    }

    public int event(int minute, int track, int drops) {
        if (!minuteOk(minute) || !in(track, 0, 15) || !in(drops, 0, 1)) {
            return no(-1);
        }
        if (minute < now.latest) {
            return no(-3);
        }
        now.latest = minute;
        boolean again = now.occupied.contains(track) == (drops == 1);
        now.events.add(new int[] {minute, track, drops, again ? 1 : 0});
        if (!again) {
            now.since.put(track, minute);
        }
        int many = 0;
        for (int[] h : now.event(now.rules[now.used], track, drops == 1)) {
            happened(h[0], h[1], h[2], h[3]);
            many += h[0] == 4 ? 0 : 1;
        }
        return yes(many);
    }

    private int interposed(int berth, int name) {
        int stood = now.name[berth];
        if (stood != 0) {
            happened(4, berth, -1, stood);
        }
        happened(2, -1, berth, name);
        now.name[berth] = name;
        return stood;
    }

    public int interpose(int minute, int berth, int name) {
        if (!minuteOk(minute) || !berthOk(berth) || !nameOk(name)) {
            return no(-1);
        }
        if (minute < now.latest) {
            return no(-3);
        }
        now.latest = minute;
        return yes(interposed(berth, name));
    }

    public int cancel(int minute, int berth) {
        if (!minuteOk(minute) || !berthOk(berth)) {
            return no(-1);
        }
        if (minute < now.latest || now.name[berth] == 0) {
            return no(-3);
        }
        now.latest = minute;
        int name = now.name[berth];
        now.name[berth] = 0;
        happened(3, berth, -1, name);
        return yes(name);
    }

    public int split(int minute, int berth, int to, int name) {
        if (!minuteOk(minute) || !berthOk(berth) || !berthOk(to) || !nameOk(name)) {
            return no(-1);
        }
        if (minute < now.latest || now.name[berth] == 0 || now.name[to] != 0) {
            return no(-3);
        }
        now.latest = minute;
        now.name[to] = name;
        now.splitFrom.put(name, now.name[berth]);
        happened(6, berth, to, name);
        return yes(now.name[berth]);
    }

    public int join(int minute, int from, int to) {
        if (!minuteOk(minute) || !berthOk(from) || !berthOk(to) || from == to) {
            return no(-1);
        }
        if (minute < now.latest || now.name[from] == 0 || now.name[to] == 0) {
            return no(-3);
        }
        now.latest = minute;
        int name = now.name[from];
        now.joinedTo.put(name, now.name[to]);
        now.name[from] = 0;
        happened(7, from, to, name);
        return yes(name);
    }

    public int kin(int name, int what) {
        if (!nameOk(name) || !in(what, 0, 1)) {
            return -1;
        }
        return (what == 0 ? now.splitFrom : now.joinedTo).getOrDefault(name, 0);
    }

    public int work(int berth, int from, int to) {
        if (!berthOk(berth) || !minuteOk(from) || !minuteOk(to) || to < from) {
            return no(-1);
        }
        if (now.works.size() == 8) {
            return no(-5);
        }
        now.works.add(new int[] {berth, from, to});
        return yes(now.works.size());
    }

    public int closed(int berth, int minute) {
        if (!berthOk(berth) || !minuteOk(minute)) {
            return -1;
        }
        return now.works.stream().anyMatch(w -> w[0] == berth && in(minute, w[1], w[2])) ? 1 : 0;
    }

    public int berth(int berth, int what) {
        if (!berthOk(berth) || !in(what, 0, 2)) {
            return -1;
        }
        return (what == 0 ? now.name : what == 1 ? now.lies : now.bad)[berth];
    }

    public int track(int track) {
        return !in(track, 0, 15) ? -1 : now.occupied.contains(track) ? 1 : 0;
    }

    public int since(int track) {
        return !in(track, 0, 15) ? -1 : now.since.getOrDefault(track, 0);
    }

    public int came(int i, int what) {
        if (i < 0 || i >= Math.min(50, now.events.size()) || !in(what, 0, 3)) {
            return -1;
        }
        return now.events.get(now.events.size() - 1 - i)[what];
    }

    public int held(int minute, int longer, int what) {
        if (!minuteOk(minute) || !minuteOk(longer) || !in(what, -1, 15)) {
            return -1;
        }
        int many = 0;
        for (int t : now.occupied) {
            if (minute - now.since.get(t) > longer && (what == -1 || what == t)) {
                many++;
            }
        }
        return many;
    }

    public int log(int i, int what) {
        if (i < 0 || i >= log().size() || !in(what, 0, 4)) {
            return -1;
        }
        return logLatestFirst().get(i)[what];
    }

    public int feed(int a, int b, int c, int d, int e) {
        if (tape.size() > 380) {
            return -1;
        }
        for (int word : new int[] {a, b, c, d, e}) {
            for (int shift = 24; shift >= 0; shift -= 8) {
                tape.add(word >>> shift & 255);
            }
        }
        return tape.size();
    }

    public int end(int n) {
        if (n < 0 || n > tape.size()) {
            return -1;
        }
        tape.subList(n, tape.size()).clear();
        return n;
    }

    public int use(int set) {
        if (!in(set, 0, 1)) {
            return no(-1);
        }
        int was = now.used;
        now.used = set;
        return yes(was);
    }

    public int rules() {
        PlainText text = PlainText.read(tape);
        tape.clear();
        fault = text.fault;
        if (fault >= 0) {
            return no(-6);
        }
        now.rules[now.used] = text;
        return yes(text.clauses.size());
    }

    public int fault() {
        return fault;
    }

    public int run() {
        List<int[]> row = new ArrayList<>();
        for (int i = 0; i + 1 < tape.size(); i += 2) {
            int b = tape.get(i + 1);
            if (in(b, 0, 15) || in(b, 128, 143)) {
                row.add(new int[] {b % 128, b / 128});
            }
        }
        tape.clear();
        if (row.isEmpty() || row.size() > 60) {
            return no(-6);
        }
        Kept from = now.copy();
        run = new PlainRun(row, r -> played(from, from.used, r));
        otherRun = new PlainRun(row, r -> played(from, 1 - from.used, r));
        return yes(row.size());
    }

    private static int[] played(Kept from, int set, List<int[]> row) {
        Kept paper = new Kept();
        paper.name = from.name.clone();
        paper.occupied = new HashSet<>(from.occupied);
        paper.off = from.off;
        for (int[] e : row) {
            paper.event(from.rules[set], e[0], e[1] == 1);
        }
        return paper.name;
    }

    public int ends(int berth) {
        return run == null || !berthOk(berth) ? -1 : run.ends[berth];
    }

    public int proof(int what) {
        if (run == null || !in(what, 0, 3)) {
            return -1;
        }
        return what == 3 ? run.firstNotHeld() : run.many(what);
    }

    public int fails(int event, int kind) {
        return run == null || event < 0 || !in(kind, 0, 2) ? -1 : run.becomes(event, kind);
    }

    public int swaps(int what, int i) {
        if (run == null || !in(what, 0, 1)) {
            return -1;
        }
        List<Integer> all = run.swaps();
        return what == 0 ? all.size() : i >= 0 && i < all.size() ? all.get(i) : -1;
    }

    public int two(int what) {
        return run == null || !in(what, 0, 4) ? -1 : run.two()[what];
    }

    public int watch() {
        return run == null ? -1 : run.watch();
    }

    public int other(int what) {
        if (run == null || !in(what, 0, 5)) {
            return -1;
        }
        if (what < 3) {
            return otherRun.many(what);
        }
        if (what == 5) {
            return Arrays.equals(run.ends, otherRun.ends) ? 1 : 0;
        }
        return what == 3 ? run.lostNotBy(otherRun) : otherRun.lostNotBy(run);
    }

    public int link(int from, int to, int minutes) {
        if (!berthOk(from) || !berthOk(to) || from == to || !in(minutes, 0, 60)) {
            return no(-1);
        }
        int pair = 100 * from + to;
        if (!now.links.containsKey(pair) && now.links.size() == 24) {
            return no(-5);
        }
        now.links.put(pair, minutes);
        return yes(now.links.size());
    }

    public int train(int name) {
        if (!nameOk(name)) {
            return no(-1);
        }
        if (now.trains.size() == 3) {
            return no(-5);
        }
        now.trains.add(name);
        return yes(now.trains.size() - 1);
    }

    public int start(int train, int berth, int minute) {
        if (!in(berth, -1, 11) || !minuteOk(minute)) {
            return no(-1);
        }
        if (train < 0 || train >= now.trains.size()) {
            return no(-2);
        }
        if (berth == -1) {
            now.starts.remove(train);
        } else {
            now.starts.put(train, new int[] {minute, berth});
        }
        return yes(0);
    }

    public int see(int minute, int berth, int name) {
        if (!minuteOk(minute) || !berthOk(berth) || !in(name, 0, 999)) {
            return no(-1);
        }
        int seen = now.seen.size();
        if (seen > 0 && minute < now.seen.get(seen - 1)[0]) {
            return no(-3);
        }
        if (seen == 16) {
            return no(-5);
        }
        now.seen.add(new int[] {minute, berth, name});
        return yes(seen);
    }

    private PlainMending mending() {
        return new PlainMending(now.trains, now.starts, now.seen, now.links);
    }

    public int mend(int what) {
        if (!in(what, 0, 1)) {
            return -1;
        }
        long[] best = mending().best(new int[0]);
        return best == null ? -1 : (int) Math.min(best[what], 1000000000);
    }

    public int mended(int i, int what) {
        if (i < 0 || i >= now.seen.size() || !in(what, 0, 1)) {
            return -1;
        }
        return what == 0 ? mending().first(i) : mending().sure(i);
    }

    public int clear() {
        int seen = now.seen.size();
        now.seen.clear();
        now.trains.clear();
        now.starts.clear();
        return seen;
    }

    public int due(int name, int berth, int minute) {
        if (!nameOk(name) || !berthOk(berth) || !minuteOk(minute)) {
            return no(-1);
        }
        if (now.timetable.size() == 40) {
            return no(-5);
        }
        now.timetable.add(new int[] {name, berth, minute});
        return yes(now.timetable.size());
    }

    public int delay(int name) {
        for (int[] row : logLatestFirst()) {
            if (row[4] != name || row[1] != 0 && row[1] != 2) {
                continue;
            }
            TreeSet<Integer> minutes = new TreeSet<>();
            for (int[] d : now.timetable) {
                if (d[0] == name && d[1] == row[3]) {
                    minutes.add(d[2]);
                }
            }
            if (minutes.isEmpty()) {
                continue;
            }
            Integer before = minutes.floor(row[0]);
            Integer behind = minutes.higher(row[0]);
            boolean earlier = behind == null || before != null && row[0] - before <= behind - row[0];
            return row[0] - (earlier ? before : behind);
        }
        return -100000;
    }

    public int station(int berth, int station) {
        if (!berthOk(berth) || !in(station, -1, 5)) {
            return no(-1);
        }
        int was = now.station[berth];
        now.station[berth] = station;
        return yes(was);
    }

    public int platform(int name) {
        for (int[] row : logLatestFirst()) {
            if (row[4] != name || !comes(row) || now.station[row[3]] == -1) {
                continue;
            }
            List<int[]> rows = new ArrayList<>();
            for (int[] d : now.timetable) {
                if (d[0] == name && now.station[d[1]] == now.station[row[3]]) {
                    rows.add(d);
                }
            }
            // A sort that keeps the order of equal ones: the earlier told stays ahead.
            rows.sort((p, q) -> Math.abs(p[2] - row[0]) - Math.abs(q[2] - row[0]));
            if (!rows.isEmpty()) {
                return rows.get(0)[1];
            }
        }
        return -1;
    }

    public int way(int name, int i) {
        if (!nameOk(name)) {
            return -1;
        }
        List<Integer> way = new ArrayList<>();
        for (int[] row : log()) {
            if (row[4] == name && comes(row)) {
                way.add(row[3]);
            }
        }
        return i == -1 ? way.size() : i >= 0 && i < way.size() ? way.get(i) : -1;
    }

    public int truth(int berth, int what) {
        if (!berthOk(berth) || !in(what, 0, 2)) {
            return -1;
        }
        for (int[] row : logLatestFirst()) {
            if (row[2] == berth || row[3] == berth) {
                return row[what == 2 ? 4 : what];
            }
        }
        return -1;
    }

    public int found(int name, int minute) {
        if (!nameOk(name) || !minuteOk(minute)) {
            return -1;
        }
        int stands = 0;
        for (int b = 0; b < 12; b++) {
            stands |= now.name[b] == name ? 1 << b : 0;
        }
        if (stands != 0) {
            return stands;
        }
        for (int[] row : logLatestFirst()) {
            if (row[4] == name) {
                return minute < row[0] ? -1
                        : PlainMending.reached(now.links, comes(row) ? row[3] : row[2], minute - row[0]);
            }
        }
        return -1;
    }

    private boolean stands(int name) {
        return Arrays.stream(now.name).anyMatch(n -> n == name);
    }

    private static int tell(TreeSet<Integer> names, int what, int i) {
        if (what == 0) {
            return names.size();
        }
        return what == 1 && i >= 0 && i < names.size() ? new ArrayList<>(names).get(i) : -1;
    }

    public int lost(int minute, int what, int i) {
        if (!minuteOk(minute)) {
            return -1;
        }
        TreeSet<Integer> names = new TreeSet<>();
        for (int[] d : now.timetable) {
            if (d[2] <= minute && !stands(d[0])) {
                names.add(d[0]);
            }
        }
        return tell(names, what, i);
    }

    public int clock(int box, int minutes) {
        if (!in(minutes, -30, 30)) {
            return no(-1);
        }
        if (!in(box, 0, 2)) {
            return no(-2);
        }
        int was = now.clock[box];
        now.clock[box] = minutes;
        return yes(was);
    }

    public int code(int box, int code, int name) {
        if (!in(code, 0, 99) || !nameOk(name)) {
            return no(-1);
        }
        if (!in(box, 0, 2)) {
            return no(-2);
        }
        Integer was = now.codes.put(1000 * box + code, name);
        return yes(was == null ? 999 : was);
    }

    public int word(int box, int minute, int berth, int code) {
        boolean isBox = in(box, 0, 2);
        boolean oursOk = !isBox || minuteOk(minute) && minuteOk(minute - now.clock[box]);
        if (!minuteOk(minute) || !oursOk || !berthOk(berth) || !in(code, 0, 99)) {
            return no(-1);
        }
        if (!isBox) {
            return no(-2);
        }
        int ours = minute - now.clock[box];
        if (ours < now.latest) {
            return no(-3);
        }
        now.latest = ours;
        int name = now.codes.getOrDefault(1000 * box + code, 999);
        interposed(berth, name);
        return yes(name);
    }

    public int bad(int berth, int bits) {
        if (!berthOk(berth) || !in(bits, 0, 1023)) {
            return no(-1);
        }
        int was = now.bad[berth];
        now.bad[berth] = bits;
        return yes(was);
    }

    /** Bit by bit: a name that loses bits. */
    private static int without(int name, int bits) {
        int left = 0;
        for (int power = 1; power < 1024; power *= 2) {
            if (name / power % 2 == 1 && bits / power % 2 == 0) {
                left += power;
            }
        }
        return Math.min(left, 999);
    }

    public int forget(int minute) {
        if (!minuteOk(minute)) {
            return no(-1);
        }
        if (minute < now.latest) {
            return no(-3);
        }
        now.latest = minute;
        int many = 0;
        for (int b = 0; b < 12; b++) {
            int was = now.name[b];
            now.name[b] = without(was, now.bad[b]);
            if (now.name[b] != was) {
                happened(5, b, -1, was);
                many++;
            }
        }
        return yes(many);
    }

    public int could(int berth, int what, int i) {
        if (!berthOk(berth)) {
            return -1;
        }
        TreeSet<Integer> names = new TreeSet<>();
        for (int[] d : now.timetable) {
            if (without(d[0], now.bad[berth]) == now.name[berth]) {
                names.add(d[0]);
            }
        }
        return tell(names, what, i);
    }

    public int alarms(int what) {
        int bits = 0;
        Map<Integer, Integer> often = new HashMap<>();
        for (int b = 0; b < 12; b++) {
            if (now.name[b] != 0) {
                often.merge(now.name[b], 1, Integer::sum);
                bits |= what == 2 ? 1 << b : 0;
            } else if (what == 0 && now.occupied.contains(now.lies[b])) {
                bits |= 1 << b;
            }
        }
        if (what == 1) {
            return (int) often.values().stream().filter(n -> n > 1).count();
        }
        return what == 0 || what == 2 ? bits : -1;
    }

    public int image(int k) {
        if (!in(k, 0, 1)) {
            return no(-1);
        }
        images[k] = now.copy();
        return yes(0);
    }

    public int back(int k) {
        if (!in(k, 0, 1)) {
            return no(-1);
        }
        if (images[k] == null) {
            return no(-2);
        }
        now = images[k].copy();
        return yes(0);
    }

    public int count(int what) {
        return switch (what) {
            case 0 -> now.rules[now.used].clauses.size();
            case 1 -> log().size();
            case 2 -> now.log.size();
            case 3 -> now.links.size();
            case 4 -> now.trains.size();
            case 5 -> now.seen.size();
            case 6 -> now.timetable.size();
            case 7 -> tape.size();
            case 8 -> now.latest;
            case 9 -> (int) now.events.stream().filter(e -> e[3] == 1).count();
            case 10 -> now.works.size();
            case 11 -> now.trespasses;
            default -> -1;
        };
    }

    public int status() {
        return status;
    }
}
