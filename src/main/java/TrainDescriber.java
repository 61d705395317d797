import java.util.Arrays;

/** A train describer: names of trains step from berth to berth as tracks drop and pick up. */
public final class TrainDescriber {
    public static final int NONE = -1;

    private static final int TRACKS = 16;
    private static final int SIGNALS = 8;
    private static final int BERTHS = 12;
    private static final int TOP_NAME = 999;
    private static final int TOP_MINUTE = 9999;
    private static final int TOP_BITS = 1023;
    private static final int TAPE_BYTES = 400;
    private static final int FEED_BYTES = 20;
    private static final int STATIONS = 6;
    private static final int BOXES = 3;
    private static final int CODES = 100;
    private static final int TOP_CLOCK = 30;
    private static final int TOP_LINK = 60;
    private static final int IMAGES = 2;
    private static final int ROW_EVENTS = 60;
    private static final int NOTHING = -100000;

    private static final int CANNOT_BE = -1;
    private static final int NO_SUCH = -2;
    private static final int NOT_NOW = -3;
    private static final int NO_ROOM = -5;
    private static final int NO_TEXT = -6;

    private final State now = new State();
    private State imageZero;
    private State imageOne;
    private final int[] tape = new int[TAPE_BYTES];
    private int taped;
    private final Parser parser = new Parser();
    private int faultPlace = NONE;
    private int refusedBy;
    private final int[] row = new int[ROW_EVENTS];
    private Trial own;
    private Trial others;
    private Mender mender;

    public TrainDescriber() {
    }

    public int lies(int berth, int track) {
        if (!isBerth(berth) || track != NONE && !isTrack(track)) {
            return refuse(CANNOT_BE);
        }
        int was = now.lying[berth];
        now.lying[berth] = track;
        return allow(was);
    }

    public int signal(int signal, int off) {
        if (signal < 0 || signal >= SIGNALS || !isFlag(off)) {
            return refuse(CANNOT_BE);
        }
        int was = now.board.signals >> signal & 1;
        now.board.signals = now.board.signals & ~(1 << signal) | off << signal;
        return allow(was);
    }

    public int event(int minute, int track, int drops) {
        if (!isMinute(minute) || !isTrack(track) || !isFlag(drops)) {
            return refuse(CANNOT_BE);
        }
        if (minute < now.minute) {
            return refuse(NOT_NOW);
        }
        now.minute = minute;
        return allow(now.happen(track, drops));
    }

    public int interpose(int minute, int berth, int name) {
        if (!isMinute(minute) || !isBerth(berth) || !isName(name)) {
            return refuse(CANNOT_BE);
        }
        if (minute < now.minute) {
            return refuse(NOT_NOW);
        }
        now.minute = minute;
        return allow(now.put(berth, name));
    }

    public int cancel(int minute, int berth) {
        if (!isMinute(minute) || !isBerth(berth)) {
            return refuse(CANNOT_BE);
        }
        int name = now.board.names[berth];
        if (minute < now.minute || name == 0) {
            return refuse(NOT_NOW);
        }
        now.minute = minute;
        now.board.names[berth] = 0;
        now.note(State.CANCELLED, berth, NONE, name);
        return allow(name);
    }

    public int split(int minute, int berth, int to, int name) {
        if (!isMinute(minute) || !isBerth(berth) || !isBerth(to) || !isName(name)) {
            return refuse(CANNOT_BE);
        }
        int whole = now.board.names[berth];
        if (minute < now.minute || whole == 0 || now.board.names[to] != 0) {
            return refuse(NOT_NOW);
        }
        now.minute = minute;
        now.board.names[to] = name;
        now.splitFrom[name] = whole;
        now.note(State.SPLIT, berth, to, name);
        return allow(whole);
    }

    public int join(int minute, int from, int to) {
        if (!isMinute(minute) || !isBerth(from) || !isBerth(to) || from == to) {
            return refuse(CANNOT_BE);
        }
        int name = now.board.names[from];
        int host = now.board.names[to];
        if (minute < now.minute || name == 0 || host == 0) {
            return refuse(NOT_NOW);
        }
        now.minute = minute;
        now.board.names[from] = 0;
        now.joinedTo[name] = host;
        now.note(State.JOINED, from, to, name);
        return allow(name);
    }

    public int kin(int name, int what) {
        if (!isName(name) || !isFlag(what)) {
            return NONE;
        }
        return what == 0 ? now.splitFrom[name] : now.joinedTo[name];
    }

    public int work(int berth, int from, int to) {
        if (!isBerth(berth) || !isMinute(from) || !isMinute(to) || to < from) {
            return refuse(CANNOT_BE);
        }
        if (!now.works.add(berth, from, to)) {
            return refuse(NO_ROOM);
        }
        return allow(now.works.told);
    }

    public int closed(int berth, int minute) {
        if (!isBerth(berth) || !isMinute(minute)) {
            return NONE;
        }
        return now.works.shut(berth, minute) ? 1 : 0;
    }

    public int berth(int berth, int what) {
        if (!isBerth(berth)) {
            return NONE;
        }
        switch (what) {
            case 0: return now.board.names[berth];
            case 1: return now.lying[berth];
            case 2: return now.badBits[berth];
            default: return NONE;
        }
    }

    public int track(int track) {
        return isTrack(track) ? now.board.tracks >> track & 1 : NONE;
    }

    public int since(int track) {
        return isTrack(track) ? now.changed[track] : NONE;
    }

    public int came(int i, int what) {
        return what == State.SPARE ? NONE : now.events.get(i, what);
    }

    public int held(int minute, int longer, int what) {
        if (!isMinute(minute) || !isMinute(longer)) {
            return NONE;
        }
        if (what == NONE) {
            return Integer.bitCount(now.heldTracks(minute, longer));
        }
        return isTrack(what) ? now.heldTracks(minute, longer) >> what & 1 : NONE;
    }

    public int log(int i, int what) {
        return now.log.get(i, what);
    }

    public int feed(int a, int b, int c, int d, int e) {
        if (taped + FEED_BYTES > TAPE_BYTES) {
            return NONE;
        }
        putBytes(a);
        putBytes(b);
        putBytes(c);
        putBytes(d);
        putBytes(e);
        return taped;
    }

    public int end(int n) {
        if (n < 0 || n > taped) {
            return NONE;
        }
        taped = n;
        return n;
    }

    public int use(int set) {
        if (!isFlag(set)) {
            return refuse(CANNOT_BE);
        }
        int was = now.using;
        now.using = set;
        return allow(was);
    }

    public int rules() {
        boolean reads = parser.reads(tape, taped);
        taped = 0;
        if (!reads) {
            faultPlace = parser.place();
            return refuse(NO_TEXT);
        }
        faultPlace = NONE;
        now.rulesOf(now.using).copyFrom(parser.draft);
        return allow(parser.draft.clauses);
    }

    public int fault() {
        return faultPlace;
    }

    public int run() {
        int events = readRow();
        taped = 0;
        if (events < 1 || events > ROW_EVENTS) {
            return refuse(NO_TEXT);
        }
        if (own == null) {
            own = new Trial();
        }
        if (others == null) {
            others = new Trial();
        }
        own.begin(now.board, now.rulesOf(now.using), row, events);
        own.judgeAll();
        others.begin(now.board, now.rulesOf(1 - now.using), row, events);
        others.judgeAll();
        return allow(events);
    }

    public int ends(int berth) {
        return own == null || !isBerth(berth) ? NONE : own.last[berth];
    }

    public int proof(int what) {
        if (own == null || what < 0 || what > 3) {
            return NONE;
        }
        return what < 3 ? own.tally[what] : own.firstBroken();
    }

    public int fails(int event, int kind) {
        if (own == null || !own.hasFault(event, kind)) {
            return NONE;
        }
        return own.verdict[3 * event + kind];
    }

    public int swaps(int what, int i) {
        if (own == null || !isFlag(what) || what == 1 && i < 0) {
            return NONE;
        }
        return own.swapAt(what == 0 ? NONE : i);
    }

    public int two(int what) {
        if (own == null || what < 0 || what > 4) {
            return NONE;
        }
        own.provePairs();
        return own.pairTally[what];
    }

    public int watch() {
        return own == null ? NONE : own.fewestWatched();
    }

    public int other(int what) {
        if (own == null || others == null) {
            return NONE;
        }
        switch (what) {
            case 0:
            case 1:
            case 2: return others.tally[what];
            case 3: return own.lostAlone(others);
            case 4: return others.lostAlone(own);
            case 5: return own.endsLike(others) ? 1 : 0;
            default: return NONE;
        }
    }

    public int link(int from, int to, int minutes) {
        if (!isBerth(from) || !isBerth(to) || from == to || minutes < 0 || minutes > TOP_LINK) {
            return refuse(CANNOT_BE);
        }
        if (!now.links.add(from, to, minutes)) {
            return refuse(NO_ROOM);
        }
        forgetMending();
        return allow(now.links.told);
    }

    public int train(int name) {
        if (!isName(name)) {
            return refuse(CANNOT_BE);
        }
        int number = now.sightings.addTrain(name);
        if (number == NONE) {
            return refuse(NO_ROOM);
        }
        forgetMending();
        return allow(number);
    }

    public int start(int train, int berth, int minute) {
        if (berth != NONE && !isBerth(berth) || !isMinute(minute)) {
            return refuse(CANNOT_BE);
        }
        if (train < 0 || train >= now.sightings.trains) {
            return refuse(NO_SUCH);
        }
        now.sightings.startBerth[train] = berth;
        now.sightings.startMinute[train] = minute;
        forgetMending();
        return allow(0);
    }

    public int see(int minute, int berth, int name) {
        if (!isMinute(minute) || !isBerth(berth) || name != 0 && !isName(name)) {
            return refuse(CANNOT_BE);
        }
        if (minute < now.sightings.latestMinute()) {
            return refuse(NOT_NOW);
        }
        int number = now.sightings.addSeen(minute, berth, name);
        if (number == NONE) {
            return refuse(NO_ROOM);
        }
        forgetMending();
        return allow(number);
    }

    public int mend(int what) {
        if (!isFlag(what)) {
            return NONE;
        }
        Mender solved = solvedMender();
        if (!solved.possible()) {
            return NONE;
        }
        return what == 0 ? solved.slips : solved.mendings;
    }

    public int mended(int i, int what) {
        if (i < 0 || i >= now.sightings.seen || !isFlag(what)) {
            return NONE;
        }
        Mender solved = solvedMender();
        if (!solved.possible()) {
            return NONE;
        }
        return what == 0 ? solved.firstBest[i] : solved.isSure(i) ? 1 : 0;
    }

    public int clear() {
        int were = now.sightings.seen;
        now.sightings.wipe();
        forgetMending();
        return were;
    }

    public int due(int name, int berth, int minute) {
        if (!isName(name) || !isBerth(berth) || !isMinute(minute)) {
            return refuse(CANNOT_BE);
        }
        if (!now.timetable.add(name, berth, minute)) {
            return refuse(NO_ROOM);
        }
        return allow(now.timetable.rows);
    }

    public int delay(int name) {
        return now.delayOf(name);
    }

    public int station(int berth, int station) {
        if (!isBerth(berth) || station < NONE || station >= STATIONS) {
            return refuse(CANNOT_BE);
        }
        int was = now.stationAt[berth];
        now.stationAt[berth] = station;
        return allow(was);
    }

    public int platform(int name) {
        return now.platformOf(name);
    }

    public int way(int name, int i) {
        return isName(name) && i >= NONE ? now.wayOf(name, i) : NONE;
    }

    public int truth(int berth, int what) {
        if (!isBerth(berth)) {
            return NONE;
        }
        int i = now.latestAt(berth);
        switch (what) {
            case 0: return now.log.get(i, State.MINUTE);
            case 1: return now.log.get(i, State.KIND);
            case 2: return now.log.get(i, State.NAME);
            default: return NONE;
        }
    }

    public int found(int name, int minute) {
        return isName(name) && isMinute(minute) ? now.whereabouts(name, minute) : NONE;
    }

    public int lost(int minute, int what, int i) {
        if (!isMinute(minute) || !isFlag(what) || what == 1 && i < 0) {
            return NONE;
        }
        now.chooseLost(minute);
        return now.timetable.chosenName(what == 0 ? NONE : i);
    }

    public int clock(int box, int minutes) {
        if (minutes < -TOP_CLOCK || minutes > TOP_CLOCK) {
            return refuse(CANNOT_BE);
        }
        if (!isBox(box)) {
            return refuse(NO_SUCH);
        }
        int was = now.clocks[box];
        now.clocks[box] = minutes;
        return allow(was);
    }

    public int code(int box, int code, int name) {
        if (!isCode(code) || !isName(name)) {
            return refuse(CANNOT_BE);
        }
        if (!isBox(box)) {
            return refuse(NO_SUCH);
        }
        int was = now.codes[box * CODES + code];
        now.codes[box * CODES + code] = name;
        return allow(was);
    }

    public int word(int box, int minute, int berth, int code) {
        if (!isMinute(minute) || !isBerth(berth) || !isCode(code)) {
            return refuse(CANNOT_BE);
        }
        if (!isBox(box)) {
            return refuse(NO_SUCH);
        }
        int ours = minute - now.clocks[box];
        if (!isMinute(ours)) {
            return refuse(CANNOT_BE);
        }
        if (ours < now.minute) {
            return refuse(NOT_NOW);
        }
        now.minute = ours;
        int name = now.codes[box * CODES + code];
        now.put(berth, name);
        return allow(name);
    }

    public int bad(int berth, int bits) {
        if (!isBerth(berth) || bits < 0 || bits > TOP_BITS) {
            return refuse(CANNOT_BE);
        }
        int was = now.badBits[berth];
        now.badBits[berth] = bits;
        return allow(was);
    }

    public int forget(int minute) {
        if (!isMinute(minute)) {
            return refuse(CANNOT_BE);
        }
        if (minute < now.minute) {
            return refuse(NOT_NOW);
        }
        now.minute = minute;
        return allow(now.fadeAll());
    }

    public int could(int berth, int what, int i) {
        if (!isBerth(berth) || !isFlag(what) || what == 1 && i < 0) {
            return NONE;
        }
        now.chooseLikely(berth);
        return now.timetable.chosenName(what == 0 ? NONE : i);
    }

    public int alarms(int what) {
        switch (what) {
            case 0: return now.nameless();
            case 1: return now.board.twins();
            case 2: return now.board.named();
            default: return NONE;
        }
    }

    public int image(int k) {
        if (k < 0 || k >= IMAGES) {
            return refuse(CANNOT_BE);
        }
        State kept = k == 0 ? imageZero : imageOne;
        if (kept == null) {
            kept = new State();
        }
        kept.copyFrom(now);
        if (k == 0) {
            imageZero = kept;
        } else {
            imageOne = kept;
        }
        return allow(0);
    }

    public int back(int k) {
        if (k < 0 || k >= IMAGES) {
            return refuse(CANNOT_BE);
        }
        State kept = k == 0 ? imageZero : imageOne;
        if (kept == null) {
            return refuse(NO_SUCH);
        }
        now.copyFrom(kept);
        forgetMending();
        return allow(0);
    }

    public int count(int what) {
        switch (what) {
            case 0: return now.rulesOf(now.using).clauses;
            case 1: return now.log.size();
            case 2: return now.log.total;
            case 3: return now.links.told;
            case 4: return now.sightings.trains;
            case 5: return now.sightings.seen;
            case 6: return now.timetable.rows;
            case 7: return taped;
            case 8: return now.minute;
            case 9: return now.repeated;
            case 10: return now.works.told;
            case 11: return now.works.trespasses;
            default: return NONE;
        }
    }

    public int status() {
        return refusedBy;
    }

    private int refuse(int why) {
        refusedBy = why;
        return why;
    }

    private int allow(int answer) {
        refusedBy = 0;
        return answer;
    }

    private void forgetMending() {
        if (mender != null) {
            mender.solved = false;
        }
    }

    /** Made at the first need alone: its tables are the largest of all, and most objects never mend. */
    private Mender solvedMender() {
        if (mender == null) {
            mender = new Mender();
        }
        if (!mender.solved) {
            mender.solve(now.sightings, now.links);
        }
        return mender;
    }

    private void putBytes(int four) {
        for (int shift = 24; shift >= 0 && taped < TAPE_BYTES; shift -= 8) {
            tape[taped] = four >> shift & 255;
            taped++;
        }
    }

    /** The minutes between events move no name, so a row keeps tracks and directions alone. */
    private int readRow() {
        int events = 0;
        for (int i = 0; i + 1 < taped; i += 2) {
            int told = tape[i + 1];
            int track = told & 127;
            if (!isTrack(track)) {
                continue;
            }
            if (events < ROW_EVENTS) {
                row[events] = Rules.key(track, told >> 7);
            }
            events++;
        }
        return events;
    }

    private static boolean isBerth(int berth) {
        return berth >= 0 && berth < BERTHS;
    }

    private static boolean isTrack(int track) {
        return track >= 0 && track < TRACKS;
    }

    private static boolean isName(int name) {
        return name >= 1 && name <= TOP_NAME;
    }

    private static boolean isMinute(int minute) {
        return minute >= 0 && minute <= TOP_MINUTE;
    }

    private static boolean isFlag(int flag) {
        return flag == 0 || flag == 1;
    }

    private static boolean isBox(int box) {
        return box >= 0 && box < BOXES;
    }

    private static boolean isCode(int code) {
        return code >= 0 && code < CODES;
    }

    /** All that an IMAGE keeps. */
    private static final class State {
        static final int MINUTE = 0;
        static final int KIND = 1;
        static final int FROM = 2;
        static final int TO = 3;
        static final int NAME = 4;
        /** An event has one column less than a row of the log. */
        static final int SPARE = 4;

        static final int MOVED = 0;
        static final int CLEARED = 1;
        static final int INTERPOSED = 2;
        static final int CANCELLED = 3;
        static final int OVERRUN = 4;
        static final int FORGOTTEN = 5;
        static final int SPLIT = 6;
        static final int JOINED = 7;

        static final int LOG_ROWS = 100;
        static final int EVENT_ROWS = 50;

        final Board board = new Board();
        final Rules setZero = new Rules();
        final Rules setOne = new Rules();
        int using;
        int minute;
        int repeated;
        final Ring log = new Ring(LOG_ROWS);
        final Ring events = new Ring(EVENT_ROWS);
        final int[] changed = new int[TRACKS];
        final int[] lying = new int[BERTHS];
        final int[] badBits = new int[BERTHS];
        final int[] stationAt = new int[BERTHS];
        final int[] splitFrom = new int[TOP_NAME + 1];
        final int[] joinedTo = new int[TOP_NAME + 1];
        final int[] clocks = new int[BOXES];
        final int[] codes = new int[BOXES * CODES];
        final Works works = new Works();
        final Links links = new Links();
        final Sightings sightings = new Sightings();
        final Timetable timetable = new Timetable();

        State() {
            Arrays.fill(lying, NONE);
            Arrays.fill(stationAt, NONE);
            Arrays.fill(codes, TOP_NAME);
        }

        void copyFrom(State from) {
            board.copyFrom(from.board);
            setZero.copyFrom(from.setZero);
            setOne.copyFrom(from.setOne);
            using = from.using;
            minute = from.minute;
            repeated = from.repeated;
            log.copyFrom(from.log);
            events.copyFrom(from.events);
            copyRow(from.changed, changed);
            copyRow(from.lying, lying);
            copyRow(from.badBits, badBits);
            copyRow(from.stationAt, stationAt);
            copyRow(from.splitFrom, splitFrom);
            copyRow(from.joinedTo, joinedTo);
            copyRow(from.clocks, clocks);
            copyRow(from.codes, codes);
            works.copyFrom(from.works);
            links.copyFrom(from.links);
            sightings.copyFrom(from.sightings);
            timetable.copyFrom(from.timetable);
        }

        Rules rulesOf(int set) {
            return set == 0 ? setZero : setOne;
        }

        int happen(int track, int drops) {
            boolean again = board.isAlready(track, drops);
            events.add(minute, track, drops, again ? 1 : 0, 0);
            if (again) {
                repeated++;
                return 0;
            }
            changed[track] = minute;
            return board.play(rulesOf(using), Rules.key(track, drops), this);
        }

        int put(int berth, int name) {
            int stood = board.names[berth];
            if (stood != 0) {
                note(OVERRUN, berth, NONE, stood);
            }
            board.names[berth] = name;
            note(INTERPOSED, NONE, berth, name);
            return stood;
        }

        void note(int kind, int from, int to, int name) {
            log.add(minute, kind, from, to, name);
            if (comes(kind) && works.shut(to, minute)) {
                works.trespasses++;
            }
        }

        static boolean comes(int kind) {
            return kind == MOVED || kind == INTERPOSED || kind == SPLIT;
        }

        static int faded(int name, int bits) {
            return Math.min(name & ~bits, TOP_NAME);
        }

        int fadeAll() {
            int faded = 0;
            for (int b = 0; b < BERTHS; b++) {
                int name = board.names[b];
                int left = faded(name, badBits[b]);
                if (left != name) {
                    board.names[b] = left;
                    note(FORGOTTEN, b, NONE, name);
                    faded++;
                }
            }
            return faded;
        }

        int heldTracks(int at, int longer) {
            int bits = 0;
            for (int t = 0; t < TRACKS; t++) {
                if (board.isAlready(t, 1) && at - changed[t] > longer) {
                    bits |= 1 << t;
                }
            }
            return bits;
        }

        int nameless() {
            int bits = 0;
            for (int b = 0; b < BERTHS; b++) {
                if (lying[b] != NONE && board.isAlready(lying[b], 1) && board.names[b] == 0) {
                    bits |= 1 << b;
                }
            }
            return bits;
        }

        int delayOf(int name) {
            for (int i = 0; i < log.size(); i++) {
                int kind = log.get(i, KIND);
                if (log.get(i, NAME) != name || kind != MOVED && kind != INTERPOSED) {
                    continue;
                }
                int came = log.get(i, MINUTE);
                int dueMinute = timetable.nextMinute(name, log.get(i, TO), came);
                if (dueMinute != NONE) {
                    return came - dueMinute;
                }
            }
            return NOTHING;
        }

        int platformOf(int name) {
            for (int i = 0; i < log.size(); i++) {
                if (log.get(i, NAME) != name || !comes(log.get(i, KIND))) {
                    continue;
                }
                int to = log.get(i, TO);
                int station = isBerth(to) ? stationAt[to] : NONE;
                int berth = station == NONE ? NONE
                        : timetable.nextBerth(name, station, stationAt, log.get(i, MINUTE));
                if (berth != NONE) {
                    return berth;
                }
            }
            return NONE;
        }

        /** The i-th berth of a way, or for NONE how many berths it has. */
        int wayOf(int name, int i) {
            int passed = 0;
            for (int k = log.size() - 1; k >= 0; k--) {
                if (log.get(k, NAME) == name && comes(log.get(k, KIND))) {
                    if (passed == i) {
                        return log.get(k, TO);
                    }
                    passed++;
                }
            }
            return i == NONE ? passed : NONE;
        }

        /** Which row of the log has a berth latest; NONE without. */
        int latestAt(int berth) {
            for (int i = 0; i < log.size(); i++) {
                if (log.get(i, FROM) == berth || log.get(i, TO) == berth) {
                    return i;
                }
            }
            return NONE;
        }

        int whereabouts(int name, int by) {
            int standing = board.berthsOf(name);
            if (standing != 0) {
                return standing;
            }
            for (int i = 0; i < log.size(); i++) {
                if (log.get(i, NAME) == name) {
                    int left = by - log.get(i, MINUTE);
                    int place = log.get(i, comes(log.get(i, KIND)) ? TO : FROM);
                    return left < 0 ? NONE : links.within(place, left);
                }
            }
            return NONE;
        }

        void chooseLost(int by) {
            for (int i = 0; i < timetable.rows; i++) {
                timetable.chosen[i] = timetable.minutes[i] <= by && board.berthsOf(timetable.names[i]) == 0;
            }
        }

        void chooseLikely(int berth) {
            for (int i = 0; i < timetable.rows; i++) {
                timetable.chosen[i] = faded(timetable.names[i], badBits[berth]) == board.names[berth];
            }
        }

        static void copyRow(int[] from, int[] to) {
            System.arraycopy(from, 0, to, 0, Math.min(from.length, to.length));
        }
    }

    /** What rules look at and change: so a run on paper plays on a board of its own. */
    private static final class Board {
        final int[] names = new int[BERTHS];
        int tracks;
        int signals;

        void copyFrom(Board from) {
            State.copyRow(from.names, names);
            tracks = from.tracks;
            signals = from.signals;
        }

        boolean isAlready(int track, int drops) {
            return (tracks >> track & 1) == drops;
        }

        /** Plays an event; the witness hears of names (on paper there is none). */
        int play(Rules rules, int key, State witness) {
            int track = key & 15;
            if (isAlready(track, key >> 4)) {
                return 0;
            }
            tracks ^= 1 << track;
            int called = rules.calledBy[key];
            int done = 0;
            for (int i = 0; i < rules.clauses && called >> i != 0; i++) {
                if ((called >> i & 1) != 0 && rules.holds(i, this)) {
                    done += obey(rules.from[i], rules.to[i], witness);
                }
            }
            return done;
        }

        private int obey(int from, int to, State witness) {
            int name = names[from];
            if (name == 0 || from == to) {
                return 0;
            }
            names[from] = 0;
            if (to == NONE) {
                if (witness != null) {
                    witness.note(State.CLEARED, from, NONE, name);
                }
                return 1;
            }
            int stood = names[to];
            names[to] = name;
            if (witness != null) {
                if (stood != 0) {
                    witness.note(State.OVERRUN, to, NONE, stood);
                }
                witness.note(State.MOVED, from, to, name);
            }
            return 1;
        }

        int berthsOf(int name) {
            int bits = 0;
            for (int b = 0; b < BERTHS; b++) {
                if (names[b] == name) {
                    bits |= 1 << b;
                }
            }
            return bits;
        }

        int named() {
            return (1 << BERTHS) - 1 & ~berthsOf(0);
        }

        int twins() {
            int many = 0;
            for (int b = 0; b < BERTHS; b++) {
                int bits = names[b] == 0 ? 0 : berthsOf(names[b]);
                // Each name is counted where it stands lowest.
                if (Integer.bitCount(bits) > 1 && (bits & -bits) == 1 << b) {
                    many++;
                }
            }
            return many;
        }
    }

    /** A set of rules; the tests of its clauses stand in one code, operands ahead of what joins them. */
    private static final class Rules {
        static final int CLAUSES = 16;
        /** An item takes two bytes of a text at least. */
        static final int ITEMS = TAPE_BYTES / 2;

        static final int IS_TRACK = 0;
        static final int IS_SIGNAL = 1;
        static final int IS_FULL = 2;
        static final int NOT = 3;
        static final int AND = 4;
        static final int OR = 5;

        int clauses;
        final int[] from = new int[CLAUSES];
        /** NONE for a clause that clears. */
        final int[] to = new int[CLAUSES];
        final int[] firstItem = new int[CLAUSES];
        final int[] pastItem = new int[CLAUSES];
        int items;
        final int[] code = new int[ITEMS];
        /** For each key of an event the clauses at it, as bits: most events look at few of them. */
        final int[] calledBy = new int[2 * TRACKS];

        static int key(int track, int drops) {
            return track | drops << 4;
        }

        void copyFrom(Rules other) {
            clauses = other.clauses;
            State.copyRow(other.from, from);
            State.copyRow(other.to, to);
            State.copyRow(other.firstItem, firstItem);
            State.copyRow(other.pastItem, pastItem);
            items = other.items;
            State.copyRow(other.code, code);
            State.copyRow(other.calledBy, calledBy);
        }

        void wipe() {
            clauses = 0;
            items = 0;
            Arrays.fill(calledBy, 0);
        }

        void addItem(int kind, int number) {
            if (items < ITEMS) {
                code[items] = kind << 4 | number;
                items++;
            }
        }

        void addClause(int source, int target, int key, int itemsBefore) {
            if (clauses < CLAUSES) {
                from[clauses] = source;
                to[clauses] = target;
                firstItem[clauses] = itemsBefore;
                pastItem[clauses] = items;
                calledBy[key] |= 1 << clauses;
                clauses++;
            }
        }

        /** Truths are stacked as bits, the latest lowest; eight brackets leave the stack far below 63. */
        boolean holds(int clause, Board board) {
            long stack = 1;
            for (int i = firstItem[clause]; i < pastItem[clause]; i++) {
                int number = code[i] & 15;
                switch (code[i] >> 4) {
                    case IS_TRACK:
                        stack = stack << 1 | board.tracks >> number & 1;
                        break;
                    case IS_SIGNAL:
                        stack = stack << 1 | board.signals >> number & 1;
                        break;
                    case IS_FULL:
                        stack = stack << 1 | (isBerth(number) && board.names[number] != 0 ? 1 : 0);
                        break;
                    case NOT:
                        stack ^= 1;
                        break;
                    case AND:
                        stack = stack >> 1 & (stack | ~1L);
                        break;
                    default:
                        stack = stack >> 1 | stack & 1;
                        break;
                }
            }
            return (stack & 1) != 0;
        }
    }

    /** Reads a text into rules; where it can't go on, the token it stands at is the fault. */
    private static final class Parser {
        static final int END = 0;
        static final int NUMBER = 1;
        static final int STRANGE = 2;
        static final int SEMICOLON = 3;
        static final int OPEN = 4;
        static final int CLOSE = 5;
        static final int STEP = 6;
        static final int TOWARD = 7;
        static final int CLEAR = 8;
        static final int AT = 9;
        static final int DROP = 10;
        static final int PICK = 11;
        static final int IF = 12;
        static final int OR = 13;
        static final int AND = 14;
        static final int NOT = 15;
        static final int TRACK = 16;
        static final int SIGNAL = 17;
        static final int FULL = 18;

        static final int SORT_BLANK = 0;
        static final int SORT_LETTER = 1;
        static final int SORT_DIGIT = 2;
        static final int SORT_OTHER = 3;

        static final int BRACKETS = 8;
        static final int PLAINS = 50;
        /** Above every number that can be, and small enough to take one digit more. */
        static final int TOO_LARGE = 1000;

        final Rules draft = new Rules();
        private final int[] starts = new int[TAPE_BYTES + 1];
        private final int[] kinds = new int[TAPE_BYTES + 1];
        private final int[] values = new int[TAPE_BYTES + 1];
        private int tokens;
        private int here;
        private int plains;

        boolean reads(int[] text, int length) {
            tokenize(text, length);
            draft.wipe();
            here = 0;
            plains = 0;
            for (int i = 0; i < Rules.CLAUSES; i++) {
                if (!clause()) {
                    return false;
                }
                if (kinds[here] == END) {
                    return true;
                }
                if (!take(SEMICOLON)) {
                    return false;
                }
            }
            return false;
        }

        int place() {
            return starts[here];
        }

        private void tokenize(int[] text, int length) {
            tokens = 0;
            int stop;
            for (int i = 0; i < length; i = stop) {
                int sort = sortOf(text[i]);
                stop = i + 1;
                while (stop < length && sort != SORT_OTHER && sortOf(text[stop]) == sort) {
                    stop++;
                }
                if (sort == SORT_LETTER) {
                    addToken(i, wordKind(text, i, stop), 0);
                } else if (sort == SORT_DIGIT) {
                    addToken(i, NUMBER, valueOf(text, i, stop));
                } else if (sort == SORT_OTHER) {
                    addToken(i, signKind(text[i]), 0);
                }
            }
            addToken(length, END, 0);
        }

        private void addToken(int at, int kind, int value) {
            if (tokens < starts.length) {
                starts[tokens] = at;
                kinds[tokens] = kind;
                values[tokens] = value;
                tokens++;
            }
        }

        private static int sortOf(int sign) {
            if (sign == ' ') {
                return SORT_BLANK;
            }
            if (sign >= 'a' && sign <= 'z') {
                return SORT_LETTER;
            }
            return sign >= '0' && sign <= '9' ? SORT_DIGIT : SORT_OTHER;
        }

        private static int signKind(int sign) {
            switch (sign) {
                case ';': return SEMICOLON;
                case '(': return OPEN;
                case ')': return CLOSE;
                default: return STRANGE;
            }
        }

        private static int valueOf(int[] text, int from, int stop) {
            int value = 0;
            for (int i = from; i < stop; i++) {
                value = Math.min(value * 10 + text[i] - '0', TOO_LARGE);
            }
            return value;
        }

        private static int wordKind(int[] text, int from, int stop) {
            if (spells("step", text, from, stop)) {
                return STEP;
            }
            if (spells("to", text, from, stop)) {
                return TOWARD;
            }
            if (spells("clear", text, from, stop)) {
                return CLEAR;
            }
            if (spells("at", text, from, stop)) {
                return AT;
            }
            if (spells("drop", text, from, stop)) {
                return DROP;
            }
            if (spells("pick", text, from, stop)) {
                return PICK;
            }
            if (spells("if", text, from, stop)) {
                return IF;
            }
            return testWordKind(text, from, stop);
        }

        private static int testWordKind(int[] text, int from, int stop) {
            if (spells("or", text, from, stop)) {
                return OR;
            }
            if (spells("and", text, from, stop)) {
                return AND;
            }
            if (spells("not", text, from, stop)) {
                return NOT;
            }
            if (spells("track", text, from, stop)) {
                return TRACK;
            }
            if (spells("signal", text, from, stop)) {
                return SIGNAL;
            }
            return spells("full", text, from, stop) ? FULL : STRANGE;
        }

        private static boolean spells(String word, int[] text, int from, int stop) {
            if (stop - from != word.length()) {
                return false;
            }
            for (int i = 0; i < word.length(); i++) {
                if (text[from + i] != word.charAt(i)) {
                    return false;
                }
            }
            return true;
        }

        /** The end is never taken, so here stays on a token. */
        private boolean take(int kind) {
            if (kinds[here] != kind) {
                return false;
            }
            here++;
            return true;
        }

        private int number(int bound) {
            if (kinds[here] != NUMBER || values[here] >= bound) {
                return NONE;
            }
            here++;
            return values[here - 1];
        }

        private boolean clause() {
            boolean steps = take(STEP);
            if (!steps && !take(CLEAR)) {
                return false;
            }
            int from = number(BERTHS);
            if (from == NONE || steps && !take(TOWARD)) {
                return false;
            }
            int to = steps ? number(BERTHS) : NONE;
            if (steps && to == NONE || !take(AT)) {
                return false;
            }
            boolean drops = take(DROP);
            if (!drops && !take(PICK)) {
                return false;
            }
            int track = number(TRACKS);
            if (track == NONE) {
                return false;
            }
            int itemsBefore = draft.items;
            if (take(IF) && !either(0)) {
                return false;
            }
            draft.addClause(from, to, Rules.key(track, drops ? 1 : 0), itemsBefore);
            return true;
        }

        /** TEST; depth is how many brackets stand open. */
        private boolean either(int depth) {
            if (!both(depth)) {
                return false;
            }
            for (int i = 0; i < TAPE_BYTES && take(OR); i++) {
                if (!both(depth)) {
                    return false;
                }
                draft.addItem(Rules.OR, 0);
            }
            return true;
        }

        private boolean both(int depth) {
            if (!plain(depth)) {
                return false;
            }
            for (int i = 0; i < TAPE_BYTES && take(AND); i++) {
                if (!plain(depth)) {
                    return false;
                }
                draft.addItem(Rules.AND, 0);
            }
            return true;
        }

        /** A row of nots is counted, not gone down into: it may be a hundred long. */
        private boolean plain(int depth) {
            int nots = 0;
            for (int i = 0; i < TAPE_BYTES && take(NOT); i++) {
                nots++;
            }
            boolean stands = kinds[here] == OPEN ? bracket(depth) : leaf();
            if (stands && nots % 2 == 1) {
                draft.addItem(Rules.NOT, 0);
            }
            return stands;
        }

        private boolean bracket(int depth) {
            if (depth >= BRACKETS) {
                return false;
            }
            return take(OPEN) && either(depth + 1) && take(CLOSE);
        }

        private boolean leaf() {
            if (plains >= PLAINS) {
                return false;
            }
            int kind = Rules.IS_FULL;
            int bound = BERTHS;
            if (take(TRACK)) {
                kind = Rules.IS_TRACK;
                bound = TRACKS;
            } else if (take(SIGNAL)) {
                kind = Rules.IS_SIGNAL;
                bound = SIGNALS;
            } else if (!take(FULL)) {
                return false;
            }
            int number = number(bound);
            if (number == NONE) {
                return false;
            }
            draft.addItem(kind, number);
            plains++;
            return true;
        }
    }

    /** The latest rows of numbers, so many as there is room for. */
    private static final class Ring {
        static final int WIDTH = 5;

        final int capacity;
        final int[] cells;
        int next;
        int total;

        Ring(int capacity) {
            this.capacity = Math.max(capacity, 1);
            cells = new int[this.capacity * WIDTH];
        }

        void copyFrom(Ring from) {
            State.copyRow(from.cells, cells);
            next = from.next;
            total = from.total;
        }

        int size() {
            return Math.min(total, capacity);
        }

        void add(int a, int b, int c, int d, int e) {
            int at = next * WIDTH;
            cells[at] = a;
            cells[at + 1] = b;
            cells[at + 2] = c;
            cells[at + 3] = d;
            cells[at + 4] = e;
            next = next + 1 < capacity ? next + 1 : 0;
            total++;
        }

        /** A column of the i-th latest row; NONE without. */
        int get(int i, int column) {
            if (i < 0 || i >= size() || column < 0 || column >= WIDTH) {
                return NONE;
            }
            int at = next - 1 - i;
            return cells[(at < 0 ? at + capacity : at) * WIDTH + column];
        }
    }

    private static final class Works {
        static final int ROOM = 8;

        int told;
        int trespasses;
        final int[] berths = new int[ROOM];
        final int[] froms = new int[ROOM];
        final int[] tos = new int[ROOM];

        void copyFrom(Works from) {
            told = from.told;
            trespasses = from.trespasses;
            State.copyRow(from.berths, berths);
            State.copyRow(from.froms, froms);
            State.copyRow(from.tos, tos);
        }

        boolean add(int berth, int from, int to) {
            if (told >= ROOM) {
                return false;
            }
            berths[told] = berth;
            froms[told] = from;
            tos[told] = to;
            told++;
            return true;
        }

        boolean shut(int berth, int minute) {
            for (int i = 0; i < told; i++) {
                if (berths[i] == berth && froms[i] <= minute && minute <= tos[i]) {
                    return true;
                }
            }
            return false;
        }
    }

    private static final class Links {
        static final int ROOM = 24;
        /** Longer than any way in any minutes, and far from where a sum of two wraps. */
        static final int NO_WAY = 1000000;

        int told;
        /** By from times BERTHS and to; NONE where there is no link. */
        private final int[] minutes = new int[BERTHS * BERTHS];
        private final int[] shortest = new int[BERTHS * BERTHS];
        private boolean measured;

        Links() {
            Arrays.fill(minutes, NONE);
        }

        void copyFrom(Links from) {
            told = from.told;
            State.copyRow(from.minutes, minutes);
            measured = false;
        }

        boolean add(int from, int to, int least) {
            int at = from * BERTHS + to;
            if (minutes[at] == NONE) {
                if (told >= ROOM) {
                    return false;
                }
                told++;
            }
            minutes[at] = least;
            measured = false;
            return true;
        }

        /** The fewest minutes from a berth to another by any row of links. */
        int fewest(int from, int to) {
            if (!measured) {
                measure();
            }
            return isBerth(from) && isBerth(to) ? shortest[from * BERTHS + to] : NO_WAY;
        }

        int within(int from, int time) {
            int bits = 0;
            for (int b = 0; b < BERTHS; b++) {
                if (fewest(from, b) <= time) {
                    bits |= 1 << b;
                }
            }
            return bits;
        }

        private void measure() {
            for (int i = 0; i < BERTHS * BERTHS; i++) {
                shortest[i] = minutes[i] == NONE ? NO_WAY : minutes[i];
            }
            for (int b = 0; b < BERTHS; b++) {
                shortest[b * BERTHS + b] = 0;
            }
            for (int by = 0; by < BERTHS; by++) {
                for (int from = 0; from < BERTHS; from++) {
                    shortenBy(by, from);
                }
            }
            measured = true;
        }

        private void shortenBy(int by, int from) {
            int first = shortest[from * BERTHS + by];
            for (int to = 0; first < NO_WAY && to < BERTHS; to++) {
                int whole = first + shortest[by * BERTHS + to];
                if (whole < shortest[from * BERTHS + to]) {
                    shortest[from * BERTHS + to] = whole;
                }
            }
        }
    }

    /** TRAINS, their STARTS and what was SEEN. */
    private static final class Sightings {
        static final int TRAINS = 3;
        static final int SEEN = 16;

        int trains;
        final int[] trainName = new int[TRAINS];
        final int[] startBerth = new int[TRAINS];
        final int[] startMinute = new int[TRAINS];
        int seen;
        final int[] minutes = new int[SEEN];
        final int[] berths = new int[SEEN];
        final int[] names = new int[SEEN];

        void copyFrom(Sightings from) {
            trains = from.trains;
            State.copyRow(from.trainName, trainName);
            State.copyRow(from.startBerth, startBerth);
            State.copyRow(from.startMinute, startMinute);
            seen = from.seen;
            State.copyRow(from.minutes, minutes);
            State.copyRow(from.berths, berths);
            State.copyRow(from.names, names);
        }

        void wipe() {
            trains = 0;
            seen = 0;
        }

        int addTrain(int name) {
            if (trains >= TRAINS) {
                return NONE;
            }
            trainName[trains] = name;
            startBerth[trains] = NONE;
            startMinute[trains] = 0;
            trains++;
            return trains - 1;
        }

        int latestMinute() {
            return seen > 0 ? minutes[seen - 1] : 0;
        }

        int addSeen(int minute, int berth, int name) {
            if (seen >= SEEN) {
                return NONE;
            }
            minutes[seen] = minute;
            berths[seen] = berth;
            names[seen] = name;
            seen++;
            return seen - 1;
        }

        boolean isSlip(int train, int i) {
            return names[i] != 0 && names[i] != trainName[train];
        }
    }

    private static final class Timetable {
        static final int ROOM = 40;
        /** More than any two minutes are apart. */
        static final int FAR = TOP_MINUTE + 1;

        int rows;
        final int[] names = new int[ROOM];
        final int[] berths = new int[ROOM];
        final int[] minutes = new int[ROOM];
        /** Rows that a question is about, marked anew for each. */
        final boolean[] chosen = new boolean[ROOM];

        void copyFrom(Timetable from) {
            rows = from.rows;
            State.copyRow(from.names, names);
            State.copyRow(from.berths, berths);
            State.copyRow(from.minutes, minutes);
        }

        boolean add(int name, int berth, int minute) {
            if (rows >= ROOM) {
                return false;
            }
            names[rows] = name;
            berths[rows] = berth;
            minutes[rows] = minute;
            rows++;
            return true;
        }

        /** The minute due at a berth that is next to one, of two the earlier; NONE without. */
        int nextMinute(int name, int berth, int minute) {
            int best = NONE;
            int bestApart = FAR;
            for (int i = 0; i < rows; i++) {
                int apart = Math.abs(minutes[i] - minute);
                boolean isNext = apart < bestApart || apart == bestApart && minutes[i] < best;
                if (names[i] == name && berths[i] == berth && isNext) {
                    best = minutes[i];
                    bestApart = apart;
                }
            }
            return best;
        }

        /** The berth of the row due in a station next to a minute, of two the earlier told; NONE without. */
        int nextBerth(int name, int station, int[] stationAt, int minute) {
            int best = NONE;
            int bestApart = FAR;
            for (int i = 0; i < rows; i++) {
                int apart = Math.abs(minutes[i] - minute);
                if (names[i] == name && stationAt[berths[i]] == station && apart < bestApart) {
                    best = berths[i];
                    bestApart = apart;
                }
            }
            return best;
        }

        /** The i-th of the chosen names by numbers, each once, or for NONE how many there are. */
        int chosenName(int i) {
            int latest = 0;
            for (int k = 0; k < rows; k++) {
                int name = lowestAbove(latest);
                if (name == NONE) {
                    return i == NONE ? k : NONE;
                }
                if (k == i) {
                    return name;
                }
                latest = name;
            }
            return i == NONE ? rows : NONE;
        }

        private int lowestAbove(int bound) {
            int lowest = NONE;
            for (int i = 0; i < rows; i++) {
                if (chosen[i] && names[i] > bound && (lowest == NONE || names[i] < lowest)) {
                    lowest = names[i];
                }
            }
            return lowest;
        }
    }

    /**
     * BEST mendings. What is still open depends only on which one each train was seen at last,
     * so the fewest slips and the ways to them are kept for each such triple.
     */
    private static final class Mender {
        /** 0: not seen yet; else 1 and the number of the seen one. */
        static final int LASTS = Sightings.SEEN + 1;
        static final int NEVER = 1000;

        boolean solved;
        int slips;
        int mendings;
        final int[] firstBest = new int[Sightings.SEEN];
        private final int[] inBest = new int[Sightings.SEEN];
        private final int[] fewest = new int[LASTS * LASTS * LASTS];
        private final int[] ways = new int[LASTS * LASTS * LASTS];
        private final boolean[] reached = new boolean[LASTS * LASTS * LASTS];
        /** By last times SEEN and the next one: bits of the trains that can go on so. */
        private final int[] open = new int[LASTS * Sightings.SEEN];
        private int trains;
        private int seen;
        private Sightings told;

        boolean possible() {
            return slips < NEVER;
        }

        boolean isSure(int i) {
            return Integer.bitCount(inBest[i]) == 1;
        }

        void solve(Sightings sightings, Links links) {
            told = sightings;
            trains = sightings.trains;
            seen = sightings.seen;
            markOpen(links);
            for (int level = seen; level >= 0; level--) {
                goThrough(level, true);
            }
            slips = fewest[0];
            mendings = ways[0];
            Arrays.fill(inBest, 0);
            reached[0] = true;
            for (int level = 0; level < seen && possible(); level++) {
                goThrough(level, false);
            }
            traceFirst();
            solved = true;
        }

        private void markOpen(Links links) {
            for (int next = 0; next < seen; next++) {
                int starters = 0;
                for (int t = 0; t < trains; t++) {
                    if (canStart(t, next, links)) {
                        starters |= 1 << t;
                    }
                }
                open[next] = starters;
                for (int last = 0; last < next; last++) {
                    int time = told.minutes[next] - told.minutes[last];
                    boolean fits = links.fewest(told.berths[last], told.berths[next]) <= time;
                    open[(last + 1) * Sightings.SEEN + next] = fits ? (1 << trains) - 1 : 0;
                }
            }
        }

        private boolean canStart(int train, int next, Links links) {
            int berth = told.startBerth[train];
            int time = told.minutes[next] - told.startMinute[train];
            return berth == NONE || links.fewest(berth, told.berths[next]) <= time;
        }

        /** All triples whose highest is the level: back from the end they are weighed, then marked forth. */
        private void goThrough(int level, boolean weighing) {
            int topA = trains > 0 ? level : 0;
            int topB = trains > 1 ? level : 0;
            int topC = trains > 2 ? level : 0;
            for (int a = 0; a <= topA; a++) {
                for (int b = 0; b <= topB; b++) {
                    int lowC = a == level || b == level ? 0 : level;
                    for (int c = lowC; c <= topC; c++) {
                        if (weighing) {
                            weigh(a, b, c, level);
                        } else {
                            mark(a, b, c, level);
                        }
                    }
                }
            }
        }

        private static int index(int a, int b, int c) {
            return (a * LASTS + b) * LASTS + c;
        }

        /** Where a train goes on to from a triple; NONE if it can't. */
        private int onward(int a, int b, int c, int level, int train) {
            int last = train == 0 ? a : train == 1 ? b : c;
            if ((open[last * Sightings.SEEN + level] >> train & 1) == 0) {
                return NONE;
            }
            switch (train) {
                case 0: return index(level + 1, b, c);
                case 1: return index(a, level + 1, c);
                default: return index(a, b, level + 1);
            }
        }

        private void weigh(int a, int b, int c, int level) {
            int here = index(a, b, c);
            reached[here] = false;
            int best = level == seen ? 0 : NEVER;
            // Three trains and sixteen seen are 43,046,721 rows at most: far below the document's limit.
            int many = level == seen ? 1 : 0;
            for (int t = 0; t < trains && level < seen; t++) {
                int next = onward(a, b, c, level, t);
                int all = next == NONE ? NEVER : fewest[next] + (told.isSlip(t, level) ? 1 : 0);
                if (all < best) {
                    best = all;
                    many = 0;
                }
                if (all == best && all < NEVER) {
                    many += ways[next];
                }
            }
            fewest[here] = best;
            ways[here] = many;
        }

        private boolean isBestOnward(int here, int next, int level, int train) {
            return next != NONE && fewest[next] + (told.isSlip(train, level) ? 1 : 0) == fewest[here];
        }

        private void mark(int a, int b, int c, int level) {
            int here = index(a, b, c);
            for (int t = 0; t < trains && reached[here]; t++) {
                int next = onward(a, b, c, level, t);
                if (isBestOnward(here, next, level, t)) {
                    reached[next] = true;
                    inBest[level] |= 1 << t;
                }
            }
        }

        private void traceFirst() {
            int a = 0;
            int b = 0;
            int c = 0;
            for (int level = 0; level < seen && possible(); level++) {
                int chosen = NONE;
                for (int t = 0; t < trains && chosen == NONE; t++) {
                    if (isBestOnward(index(a, b, c), onward(a, b, c, level, t), level, t)) {
                        chosen = t;
                    }
                }
                firstBest[level] = chosen;
                a = chosen == 0 ? level + 1 : a;
                b = chosen == 1 ? level + 1 : b;
                c = chosen == 2 ? level + 1 : c;
            }
        }
    }

    /** A set of rules put through a run, without a fault and with each one. */
    private static final class Trial {
        static final int HELD = 0;
        static final int SHIFTED = 1;
        static final int LOST = 2;
        static final int HIDDEN = 3;
        static final int FIRST_HIDDEN = 4;

        static final int MISSING = 0;
        static final int BOBS = 1;
        static final int KINDS = 3;
        static final int NOT_YET = -2;

        /** By 3 times an event and the kind of a fault. */
        final int[] verdict = new int[KINDS * ROW_EVENTS];
        final int[] tally = new int[LOST + 1];
        final int[] pairTally = new int[FIRST_HIDDEN + 1];
        final int[] last = new int[BERTHS];
        private final int[] apart = new int[KINDS * ROW_EVENTS];
        private final boolean[] swapped = new boolean[KINDS * ROW_EVENTS];
        private final int[] keys = new int[ROW_EVENTS];
        private int events;
        private final Rules rules = new Rules();
        /** What stands ahead of each event, so that a fault is played from there on. */
        private final int[] namesAhead = new int[ROW_EVENTS * BERTHS];
        private final int[] tracksAhead = new int[ROW_EVENTS];
        private final Board board = new Board();
        private final Board second = new Board();
        private boolean paired;
        private int watched = NOT_YET;

        void begin(Board from, Rules by, int[] row, int many) {
            State.copyRow(row, keys);
            events = Math.min(many, ROW_EVENTS);
            rules.copyFrom(by);
            board.copyFrom(from);
            for (int i = 0; i < events; i++) {
                System.arraycopy(board.names, 0, namesAhead, i * BERTHS, BERTHS);
                tracksAhead[i] = board.tracks;
                board.play(rules, keys[i], null);
            }
            State.copyRow(board.names, last);
            paired = false;
            watched = NOT_YET;
        }

        boolean hasFault(int event, int kind) {
            if (event < 0 || event >= events || kind < 0 || kind >= KINDS) {
                return false;
            }
            return kind == MISSING || kind == BOBS || event < events - 1;
        }

        private int faults() {
            // The last event can't be late, and that would be the last fault.
            return KINDS * events - 1;
        }

        void judgeAll() {
            Arrays.fill(tally, 0);
            for (int f = 0; f < faults(); f++) {
                playFault(f / KINDS, f % KINDS);
                apart[f] = differing(board.names);
                verdict[f] = judge(board.names, apart[f]);
                swapped[f] = verdict[f] == SHIFTED && isSwap(apart[f]);
                tally[verdict[f]]++;
            }
        }

        private void standAhead(int i) {
            System.arraycopy(namesAhead, i * BERTHS, board.names, 0, BERTHS);
            board.tracks = tracksAhead[i];
        }

        private void playFrom(Board on, int first) {
            for (int i = first; i < events; i++) {
                on.play(rules, keys[i], null);
            }
        }

        private void playFault(int i, int kind) {
            standAhead(i);
            if (kind == MISSING) {
                playFrom(board, i + 1);
            } else if (kind == BOBS) {
                board.play(rules, keys[i], null);
                board.play(rules, contrary(keys[i]), null);
                playFrom(board, i);
            } else if (i + 1 < events) {
                board.play(rules, keys[i + 1], null);
                board.play(rules, keys[i], null);
                playFrom(board, i + 2);
            }
        }

        private static int contrary(int key) {
            return key ^ Rules.key(0, 1);
        }

        /** The berths, as bits, that end otherwise than without a fault. */
        private int differing(int[] names) {
            int bits = 0;
            for (int b = 0; b < BERTHS; b++) {
                if (names[b] != last[b]) {
                    bits |= 1 << b;
                }
            }
            return bits;
        }

        private int judge(int[] names, int differing) {
            if (differing == 0) {
                return HELD;
            }
            int unmatched = differing;
            for (int b = 0; b < BERTHS; b++) {
                if ((differing >> b & 1) != 0) {
                    int left = strike(names[b], unmatched);
                    if (left == unmatched) {
                        return LOST;
                    }
                    unmatched = left;
                }
            }
            return SHIFTED;
        }

        /** Strikes one berth that has a name without a fault from berths, if any has it. */
        private int strike(int name, int berths) {
            for (int b = 0; b < BERTHS; b++) {
                if ((berths >> b & 1) != 0 && last[b] == name) {
                    return berths & ~(1 << b);
                }
            }
            return berths;
        }

        /** Shifted between just two berths, the names change places: so full ones are full in both. */
        private boolean isSwap(int differing) {
            if (Integer.bitCount(differing) != 2) {
                return false;
            }
            for (int b = 0; b < BERTHS; b++) {
                if ((differing >> b & 1) != 0 && last[b] == 0) {
                    return false;
                }
            }
            return true;
        }

        int firstBroken() {
            for (int f = 0; f < faults(); f++) {
                if (verdict[f] != HELD) {
                    return f;
                }
            }
            return NONE;
        }

        /** The i-th swap, or for NONE how many there are. */
        int swapAt(int i) {
            int passed = 0;
            for (int f = 0; f < faults(); f++) {
                if (swapped[f]) {
                    if (passed == i) {
                        return f;
                    }
                    passed++;
                }
            }
            return i == NONE ? passed : NONE;
        }

        /** Pairs are many and seldom asked for, so they are played at the first question. */
        void provePairs() {
            if (paired) {
                return;
            }
            Arrays.fill(pairTally, 0);
            pairTally[FIRST_HIDDEN] = NONE;
            for (int i = 0; i < events; i++) {
                standAhead(i);
                for (int k = i + 1; k < events; k++) {
                    second.copyFrom(board);
                    playFrom(second, k + 1);
                    countPair(i, k);
                    board.play(rules, keys[k], null);
                }
            }
            paired = true;
        }

        private void countPair(int i, int k) {
            int becomes = judge(second.names, differing(second.names));
            pairTally[becomes]++;
            boolean heldAlone = verdict[KINDS * i] == HELD && verdict[KINDS * k] == HELD;
            if (becomes != HELD && heldAlone) {
                pairTally[HIDDEN]++;
                if (pairTally[FIRST_HIDDEN] == NONE) {
                    pairTally[FIRST_HIDDEN] = ROW_EVENTS * i + k;
                }
            }
        }

        int fewestWatched() {
            if (watched != NOT_YET) {
                return watched;
            }
            int best = (1 << BERTHS) - 1;
            for (int berths = 0; berths < 1 << BERTHS; berths++) {
                if (Integer.bitCount(berths) < Integer.bitCount(best) && showsAll(berths)) {
                    best = berths;
                }
            }
            watched = best;
            return watched;
        }

        private boolean showsAll(int berths) {
            for (int f = 0; f < faults(); f++) {
                if (apart[f] != 0 && (apart[f] & berths) == 0) {
                    return false;
                }
            }
            return true;
        }

        int lostAlone(Trial beside) {
            int many = 0;
            for (int f = 0; f < faults(); f++) {
                if (verdict[f] == LOST && beside.verdict[f] != LOST) {
                    many++;
                }
            }
            return many;
        }

        boolean endsLike(Trial beside) {
            return differing(beside.last) == 0;
        }
    }
}
