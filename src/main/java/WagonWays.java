import java.util.Arrays;

/** Wagons to everywhere: see README.md; each call is told by a numbered promise of the document. */
public final class WagonWays {
    public static final int NONE = -1, UNKNOWN = -101, OUTSIDE = -102, STATE = -103, FULL = -104;

    /** Rows of yards by yards lie in one array: a for b stands at a * SIDE + b, as in the bits of a net. */
    private static final int SIDE = 8;
    private static final int WEEKS = 3;
    private static final int DAY = 24;
    private static final int LAST_HOUR = 2000;
    private static final int UNREACHED = 1000000;

    private final Land land = new Land();
    private final Page page = new Page();
    private final Blocks blocks = new Blocks();
    private final Timetable timetable = new Timetable();
    private final Traffic traffic = new Traffic();
    private final Row row = new Row();
    private final Nets nets = new Nets();
    private final Empties spare = new Empties();
    private final Legs legs = new Legs();
    private final Detour detour = new Detour();

    public WagonWays() {
        begin(4);
    }

    private void begin(int yards) {
        land.begin(yards);
        page.many = 0;
        blocks.begin();
        timetable.begin();
        traffic.begin();
        row.many = 0;
        nets.begin();
        spare.begin();
        legs.many = 0;
        detour.done = 0;
    }

    // ---- the land

    public int land(int n) {
        if (n < 2 || n > SIDE) {
            return OUTSIDE;
        }
        begin(n);
        return n;
    }

    public int miles(int a, int b, int v) {
        if (!land.hasPair(a, b)) {
            return UNKNOWN;
        }
        if (v < 1 || v > 99) {
            return OUTSIDE;
        }
        nets.forget();
        return land.setMiles(a, b, v);
    }

    public int far(int a, int b) {
        if (!land.has(a) || !land.has(b)) {
            return UNKNOWN;
        }
        land.measure();
        return land.nearest[a * SIDE + b];
    }

    public int letters(long w) {
        int more = Page.lettersIn(w);
        if (more == NONE) {
            return OUTSIDE;
        }
        if (page.many + more > Page.MOST) {
            return FULL;
        }
        page.write(w, more);
        return page.many;
    }

    public int blank() {
        int had = page.many;
        page.many = 0;
        return had;
    }

    public int good() {
        return page.readFor(land.yards);
    }

    public int block() {
        if (!page.isWholeFor(land.yards)) {
            return STATE;
        }
        if (blocks.many >= Blocks.MOST) {
            return FULL;
        }
        int number = blocks.add(page.from, page.to, page.takes, page.rank);
        page.many = 0;
        return number;
    }

    public int about(int block, int what) {
        if (!blocks.has(block)) {
            return UNKNOWN;
        }
        if (what < 0 || what > 3) {
            return OUTSIDE;
        }
        return blocks.tell(block, what);
    }

    public int goes(int a, int d) {
        if (!land.has(a) || !land.has(d)) {
            return UNKNOWN;
        }
        return blocks.chosen[a * SIDE + d];
    }

    public int way(int a, int d, int what) {
        if (!land.has(a) || !land.has(d)) {
            return UNKNOWN;
        }
        if (what < 0 || what > 18 || what > 1 && what < 10) {
            return OUTSIDE;
        }
        if (!blocks.follow(a, d, blocks.to)) {
            return NONE;
        }
        if (what == 0) {
            // The way from a yard to itself has one stop alone, and none between.
            return Math.max(0, blocks.stopsMany - 2);
        }
        return what == 1 ? milesAlongStops() : blocks.stopAt(what - 10);
    }

    private int milesAlongStops() {
        int sum = 0;
        for (int i = 1; i < blocks.stopsMany; i++) {
            sum += land.miles[blocks.stops[i - 1] * SIDE + blocks.stops[i]];
        }
        return sum;
    }

    public int lost() {
        int without = 0;
        for (int a = 0; a < land.yards; a++) {
            for (int d = 0; d < land.yards; d++) {
                if (a != d && !blocks.follow(a, d, blocks.to)) {
                    without++;
                }
            }
        }
        return without;
    }

    // ---- trains

    public int train(int x, int y, int days, int hour, int takes, int length) {
        if (!blocks.has(x) || y != NONE && !blocks.has(y)) {
            return UNKNOWN;
        }
        if (y != NONE && !blocks.madeAlike(x, y)) {
            return UNKNOWN;
        }
        if (days < 1 || days > 127 || hour < 0 || hour >= DAY) {
            return OUTSIDE;
        }
        if (takes < 1 || takes > 48 || length < 1 || length > 12) {
            return OUTSIDE;
        }
        if (timetable.many >= Timetable.MOST) {
            return FULL;
        }
        int number = timetable.add(days, hour, takes, length);
        timetable.serve(number, x, y, blocks);
        return number;
    }

    public int wagon(int at, int goal) {
        if (!land.hasPair(at, goal)) {
            return UNKNOWN;
        }
        if (traffic.many >= Traffic.MOST) {
            return FULL;
        }
        return traffic.add(at, goal);
    }

    public int sorting(int s) {
        if (s < 0 || s > 12) {
            return OUTSIDE;
        }
        int was = traffic.sortingHours;
        traffic.sortingHours = s;
        return was;
    }

    public int close(int yard, int from, int to) {
        if (!land.has(yard)) {
            return UNKNOWN;
        }
        boolean never = from == NONE && to == NONE;
        if (!never && (from < 0 || to < from || to > 99)) {
            return OUTSIDE;
        }
        traffic.closedFrom[yard] = from;
        traffic.closedTo[yard] = to;
        return 1;
    }

    public int pass(int n) {
        if (n < 1 || n > 200) {
            return OUTSIDE;
        }
        if (traffic.clock + n > LAST_HOUR) {
            return STATE;
        }
        for (int i = 0; i < n; i++) {
            traffic.passHour(timetable, blocks);
        }
        return traffic.clock;
    }

    public int wagonIs(int w, int what) {
        if (!traffic.has(w)) {
            return UNKNOWN;
        }
        if (what < 0 || what > 5) {
            return OUTSIDE;
        }
        return traffic.tell(w, what);
    }

    public int trainIs(int t, int what) {
        if (!timetable.has(t)) {
            return UNKNOWN;
        }
        if (what < 0 || what > 3) {
            return OUTSIDE;
        }
        return timetable.tell(t, what, traffic.clock);
    }

    public int yard(int y, int what) {
        if (!land.has(y)) {
            return UNKNOWN;
        }
        if (what < 0 || what > 1) {
            return OUTSIDE;
        }
        return traffic.standingAt(y, what == 1);
    }

    public int rest(int r) {
        if (r < 0 || r > 48) {
            return OUTSIDE;
        }
        int was = timetable.restHours;
        timetable.restHours = r;
        return was;
    }

    public int crews(int what) {
        if (what < 0 || what > 2) {
            return OUTSIDE;
        }
        if (what == 0) {
            return timetable.duties();
        }
        return what == 1 ? timetable.fewestCrews() : timetable.dutyHours();
    }

    // ---- sorting

    public int drive() {
        int had = row.many;
        row.many = 0;
        return had;
    }

    public int roll(int mark) {
        if (mark < 0 || mark > 15) {
            return OUTSIDE;
        }
        if (row.many >= Row.MOST) {
            return FULL;
        }
        row.add(mark);
        return row.many;
    }

    public int number(int i) {
        if (!row.has(i)) {
            return UNKNOWN;
        }
        row.giveNumbers();
        return row.numbers[i];
    }

    public int steps(int tracks) {
        if (tracks < 2 || tracks > 8) {
            return OUTSIDE;
        }
        if (row.many == 0) {
            return STATE;
        }
        row.giveNumbers();
        return row.stepsBy(tracks);
    }

    public int stands(int tracks, int k, int i) {
        if (!row.has(i)) {
            return UNKNOWN;
        }
        if (tracks < 2 || tracks > 8 || k < 0) {
            return OUTSIDE;
        }
        row.giveNumbers();
        if (k > row.stepsBy(tracks)) {
            return OUTSIDE;
        }
        row.sortBy(tracks, k);
        return row.standing[i];
    }

    // ---- nets, empties

    public int load(int a, int d, int v) {
        if (!land.hasPair(a, d)) {
            return UNKNOWN;
        }
        if (v < 0 || v > 99) {
            return OUTSIDE;
        }
        nets.forget();
        int was = nets.loads[a * SIDE + d];
        nets.loads[a * SIDE + d] = v;
        return was;
    }

    public int tracks(int yard, int v) {
        if (!land.has(yard)) {
            return UNKNOWN;
        }
        if (v < 0 || v > 7) {
            return OUTSIDE;
        }
        nets.forget();
        int was = nets.trackCount[yard];
        nets.trackCount[yard] = v;
        return was;
    }

    public int price(int which, int v) {
        if (which < 0 || which > 1) {
            return UNKNOWN;
        }
        if (v < 0 || v > 99) {
            return OUTSIDE;
        }
        if (which == 1) {
            int paid = spare.stayPrice;
            spare.stayPrice = v;
            return paid;
        }
        nets.forget();
        int was = nets.handling;
        nets.handling = v;
        return was;
    }

    public int cost(long net) {
        return nets.allows(net, land.yards) ? nets.costOf(net, land) : OUTSIDE;
    }

    public long net(int what) {
        if (what < 0 || what > 2) {
            return OUTSIDE;
        }
        if (what == 2) {
            return nets.costOf(Nets.fullNet(land.yards), land);
        }
        if (land.yards > Nets.MOST_PROVEN) {
            return STATE;
        }
        nets.findBest(land);
        return what == 0 ? nets.bestCost : nets.bestNet;
    }

    public int empties(int yard, int week, int v) {
        if (!land.has(yard) || week < 0 || week >= WEEKS) {
            return -1000;
        }
        if (v < -50 || v > 50) {
            return -1001;
        }
        int was = spare.over[yard * WEEKS + week];
        spare.over[yard * WEEKS + week] = v;
        return was;
    }

    public int least() {
        return spare.leastPaid(land);
    }

    // ---- promises, closed yards

    public int leg(int hours, int tenths) {
        if (hours < 1 || hours > 99 || tenths < 0 || tenths > 9) {
            return OUTSIDE;
        }
        if (legs.many >= Legs.MOST) {
            return FULL;
        }
        legs.add(hours, tenths);
        return legs.many;
    }

    public int stay() {
        int had = legs.many;
        legs.many = 0;
        return had;
    }

    public long share(int hours, int part) {
        if (hours < 0 || hours > 999 || part < 0 || part > 1) {
            return OUTSIDE;
        }
        legs.shareWithin(hours);
        return part == 0 ? legs.above : legs.below;
    }

    public int promise(int p) {
        if (p < 1 || p > 999) {
            return OUTSIDE;
        }
        return legs.hoursFor(p);
    }

    public int change(int c, int what) {
        if (!land.has(c)) {
            return UNKNOWN;
        }
        if (what != 0 && (what < 10 || what > 29)) {
            return OUTSIDE;
        }
        if (detour.done >= Detour.MOST_DONE || !detour.gather(c, blocks)) {
            return STATE;
        }
        detour.done++;
        detour.seek(c, land.yards, blocks, nets.loads);
        if (what == 0 || detour.changed == NONE) {
            return detour.changed;
        }
        return blocks.has(what - 10) ? detour.best[what - 10] : NONE;
    }

    // ---- what is told

    public int count(int what) {
        switch (what) {
            case 0: return land.yards;
            case 1: return blocks.many;
            case 2: return timetable.many;
            case 3: return traffic.many;
            case 4: return traffic.clock;
            case 5: return traffic.doneMany();
            case 6: return traffic.runningMany();
            case 7: return row.many;
            case 8: return legs.many;
            case 9: return page.many;
            case 10: return detour.done;
            default: return OUTSIDE;
        }
    }

    public long digest() {
        long h = land.digestOnto(229);
        h = blocks.digestOnto(h);
        h = timetable.digestOnto(h, traffic.clock);
        h = traffic.digestOnto(h);
        h = row.digestOnto(h);
        h = nets.digestOnto(h, land.yards);
        h = spare.digestOnto(h, land.yards);
        h = legs.digestOnto(h);
        h = page.digestOnto(h);
        return 31 * h + detour.done;
    }

    /** The yards and the miles between them. */
    private static final class Land {
        int yards;
        final int[] miles = new int[SIDE * SIDE];
        final int[] nearest = new int[SIDE * SIDE];

        void begin(int n) {
            yards = n;
            Arrays.fill(miles, 10);
        }

        boolean has(int yard) {
            return yard >= 0 && yard < yards;
        }

        boolean hasPair(int a, int b) {
            return has(a) && has(b) && a != b;
        }

        int setMiles(int a, int b, int v) {
            int was = miles[a * SIDE + b];
            miles[a * SIDE + b] = v;
            miles[b * SIDE + a] = v;
            return was;
        }

        /** Fills nearest with the least miles over any yards. */
        void measure() {
            for (int a = 0; a < yards; a++) {
                for (int b = 0; b < yards; b++) {
                    nearest[a * SIDE + b] = a == b ? 0 : miles[a * SIDE + b];
                }
            }
            shorten(nearest, yards, 0);
        }

        /** Makes each length the least over any yards between, at each of which a toll is paid. */
        static void shorten(int[] lengths, int yards, int toll) {
            for (int mid = 0; mid < yards; mid++) {
                for (int a = 0; a < yards; a++) {
                    int head = lengths[a * SIDE + mid] + toll;
                    if (a != mid && head < UNREACHED) {
                        shortenRow(lengths, yards, a, mid, head);
                    }
                }
            }
        }

        private static void shortenRow(int[] lengths, int yards, int a, int mid, int head) {
            for (int b = 0; b < yards; b++) {
                int sum = head + lengths[mid * SIDE + b];
                if (b != mid && b != a && sum < lengths[a * SIDE + b]) {
                    lengths[a * SIDE + b] = sum;
                }
            }
        }

        long digestOnto(long begun) {
            long h = 31 * begun + yards;
            for (int a = 0; a < yards; a++) {
                for (int b = a + 1; b < yards; b++) {
                    h = 31 * h + miles[a * SIDE + b];
                }
            }
            return h;
        }
    }

    /** Letters that come in, and how they are read as the text of a block. */
    private static final class Page {
        static final int MOST = 40;
        private static final int AT_FROM = 0, AT_ARROW = 1, AT_TO = 2, AT_COLON = 3;
        private static final int AT_FIRST_TAKEN = 4, AT_MORE_TAKEN = 5, AT_RANK = 6, AT_END = 7;

        int many;
        int from;
        int to;
        int takes;
        int rank;
        private int place;
        private final int[] codes = new int[MOST];

        /** How many letters a word tells, or NONE if it does not tell letters. */
        static int lettersIn(long word) {
            int found = 0;
            for (int i = 0; i < 8; i++) {
                int code = (int) (word >>> 8 * i) & 255;
                if (code > 126 || code != 0 && found < i) {
                    return NONE;
                }
                found += code != 0 ? 1 : 0;
            }
            return found;
        }

        /** Writes the first letters of a word behind the others; the caller has seen that there is room. */
        void write(long word, int more) {
            for (int i = 0; i < more && many < MOST; i++) {
                codes[many] = (int) (word >>> 8 * i) & 255;
                many++;
            }
        }

        /** Reads from the front as far as it goes: how many letters begin a text of a block. */
        int readFor(int yards) {
            place = AT_FROM;
            takes = 0;
            rank = 5;
            for (int i = 0; i < many; i++) {
                int next = placeBehind(codes[i], yards);
                if (next == NONE) {
                    return i;
                }
                place = next;
            }
            return many;
        }

        boolean isWholeFor(int yards) {
            return readFor(yards) == many && (place == AT_MORE_TAKEN || place == AT_END);
        }

        /** Keeps what a letter tells at this place of the text: the next place, or NONE if it may not stand here. */
        private int placeBehind(int code, int yards) {
            int yard = code >= 'A' && code < 'A' + yards ? code - 'A' : NONE;
            switch (place) {
                case AT_FROM:
                    from = yard;
                    return yard == NONE ? NONE : AT_ARROW;
                case AT_ARROW:
                    return code == '>' ? AT_TO : NONE;
                case AT_TO:
                    to = yard;
                    return yard == NONE || yard == from ? NONE : AT_COLON;
                case AT_COLON:
                    return code == ':' ? AT_FIRST_TAKEN : NONE;
                case AT_FIRST_TAKEN:
                    return placeBehindTaken(yard);
                case AT_MORE_TAKEN:
                    return code == '/' ? AT_RANK : placeBehindTaken(yard);
                case AT_RANK:
                    rank = code - '0';
                    return rank < 1 || rank > 9 ? NONE : AT_END;
                default:
                    return NONE;
            }
        }

        private int placeBehindTaken(int yard) {
            if (yard == NONE || yard == from || (takes >> yard & 1) != 0) {
                return NONE;
            }
            takes |= 1 << yard;
            return AT_MORE_TAKEN;
        }

        long digestOnto(long begun) {
            long h = begun;
            for (int i = 0; i < many; i++) {
                h = 31 * h + codes[i];
            }
            return h;
        }
    }

    /** The blocks, and the ways that they give. */
    private static final class Blocks {
        static final int MOST = 20;

        int many;
        final int[] from = new int[MOST];
        final int[] to = new int[MOST];
        final int[] takes = new int[MOST];
        final int[] rank = new int[MOST];
        /** The block into which a wagon goes, by where it stands and its goal. */
        final int[] chosen = new int[SIDE * SIDE];
        /** The yards of the way that was followed last. */
        final int[] stops = new int[SIDE];
        int stopsMany;

        void begin() {
            many = 0;
            stopsMany = 0;
            Arrays.fill(chosen, NONE);
        }

        boolean has(int block) {
            return block >= 0 && block < many;
        }

        boolean madeAlike(int x, int y) {
            return from[x] == from[y] && to[x] == to[y];
        }

        /** Adds a block; the caller has seen that there is room. */
        int add(int madeAt, int madeFor, int yardsTaken, int itsRank) {
            int number = many;
            from[number] = madeAt;
            to[number] = madeFor;
            takes[number] = yardsTaken;
            rank[number] = itsRank;
            many++;
            for (int d = 0; d < SIDE; d++) {
                if ((yardsTaken >> d & 1) != 0) {
                    choose(madeAt * SIDE + d, number);
                }
            }
            return number;
        }

        /** A later block is chosen only if its rank is greater, since of like ones the least number counts. */
        private void choose(int cell, int number) {
            int rival = chosen[cell];
            if (rival == NONE || rank[number] > rank[rival]) {
                chosen[cell] = number;
            }
        }

        /** Follows a wagon from a for d, each block leading where target says: whether it comes there. */
        boolean follow(int a, int d, int[] target) {
            int seen = 1 << a;
            int at = a;
            stops[0] = a;
            stopsMany = 1;
            for (int i = 1; i < SIDE && at != d; i++) {
                int block = chosen[at * SIDE + d];
                if (block == NONE) {
                    return false;
                }
                at = target[block];
                if ((seen >> at & 1) != 0) {
                    return false;
                }
                seen |= 1 << at;
                stops[i] = at;
                stopsMany = i + 1;
            }
            return at == d;
        }

        int stopAt(int i) {
            return i >= 0 && i < stopsMany ? stops[i] : NONE;
        }

        boolean stopsInclude(int yard) {
            for (int i = 0; i < stopsMany; i++) {
                if (stops[i] == yard) {
                    return true;
                }
            }
            return false;
        }

        int tell(int block, int what) {
            switch (what) {
                case 0: return from[block];
                case 1: return to[block];
                case 2: return takes[block];
                default: return rank[block];
            }
        }

        long digestOnto(long begun) {
            long h = begun;
            for (int b = 0; b < many; b++) {
                for (int what = 0; what <= 3; what++) {
                    h = 31 * h + tell(b, what);
                }
            }
            return h;
        }
    }

    /** The trains: when they leave, what they did, and the crews that they need. */
    private static final class Timetable {
        static final int MOST = 12;
        private static final int WEEK = 7 * DAY;
        private static final int LONG_AGO = -1000;

        int many;
        int restHours;
        final int[] blockOne = new int[MOST];
        final int[] blockTwo = new int[MOST];
        final int[] from = new int[MOST];
        final int[] to = new int[MOST];
        final int[] takes = new int[MOST];
        final int[] length = new int[MOST];
        private final int[] days = new int[MOST];
        private final int[] hour = new int[MOST];
        private final int[] leftMany = new int[MOST];
        private final int[] tookMany = new int[MOST];
        private final int[] shutMany = new int[MOST];
        /** A train leaves once a day at most and takes 48 hours at most: two runnings at most are on the way. */
        private final int[] leftLast = new int[MOST];
        private final int[] leftBefore = new int[MOST];
        private final int[] crewsFree = new int[SIDE];

        void begin() {
            many = 0;
            restHours = 8;
        }

        boolean has(int t) {
            return t >= 0 && t < many;
        }

        /** Adds a train; the caller has seen that there is room. */
        int add(int itsDays, int itsHour, int itTakes, int itsLength) {
            int number = many;
            days[number] = itsDays;
            hour[number] = itsHour;
            takes[number] = itTakes;
            length[number] = itsLength;
            leftMany[number] = 0;
            tookMany[number] = 0;
            shutMany[number] = 0;
            leftLast[number] = LONG_AGO;
            leftBefore[number] = LONG_AGO;
            many++;
            return number;
        }

        void serve(int t, int x, int y, Blocks blocks) {
            blockOne[t] = x;
            blockTwo[t] = y;
            from[t] = blocks.from[x];
            to[t] = blocks.to[x];
        }

        /** Whether a train is due to leave at an hour, counted from day 0's hour 0. */
        boolean isDue(int t, int when) {
            return when % DAY == hour[t] && (days[t] >> when / DAY % 7 & 1) != 0;
        }

        void noteLeaving(int t, int clock, int wagonsTaken) {
            leftMany[t]++;
            tookMany[t] += wagonsTaken;
            leftBefore[t] = leftLast[t];
            leftLast[t] = clock;
        }

        void noteShut(int t) {
            shutMany[t]++;
        }

        /** What comes in at the clock is on the way yet, since that hour has not gone by. */
        private int onTheWay(int t, int clock) {
            int last = leftLast[t] + takes[t] >= clock ? 1 : 0;
            int before = leftBefore[t] + takes[t] >= clock ? 1 : 0;
            return last + before;
        }

        int tell(int t, int what, int clock) {
            switch (what) {
                case 0: return leftMany[t];
                case 1: return tookMany[t];
                case 2: return shutMany[t];
                default: return onTheWay(t, clock);
            }
        }

        int duties() {
            int sum = 0;
            for (int t = 0; t < many; t++) {
                sum += Integer.bitCount(days[t]);
            }
            return sum;
        }

        int dutyHours() {
            int sum = 0;
            for (int t = 0; t < many; t++) {
                sum += Integer.bitCount(days[t]) * takes[t];
            }
            return sum;
        }

        /**
         * All crews that are free at a yard are alike there, so a duty that begins takes any of them,
         * and a new crew only if there is none: no other choice could save more.
         */
        int fewestCrews() {
            Arrays.fill(crewsFree, 0);
            int fresh = 0;
            for (int when = 0; when < WEEK; when++) {
                freeCrewsAt(when);
                fresh += crewsStartedAt(when);
            }
            return fresh;
        }

        private void freeCrewsAt(int when) {
            for (int t = 0; t < many; t++) {
                int left = when - restHours - takes[t];
                if (left >= 0 && isDue(t, left)) {
                    crewsFree[to[t]]++;
                }
            }
        }

        private int crewsStartedAt(int when) {
            int fresh = 0;
            for (int t = 0; t < many; t++) {
                if (!isDue(t, when)) {
                    continue;
                }
                if (crewsFree[from[t]] > 0) {
                    crewsFree[from[t]]--;
                } else {
                    fresh++;
                }
            }
            return fresh;
        }

        long digestOnto(long begun, int clock) {
            long h = begun;
            for (int t = 0; t < many; t++) {
                for (int what = 0; what <= 3; what++) {
                    h = 31 * h + tell(t, what, clock);
                }
            }
            return h;
        }
    }

    /** The clock, the wagons, and what happens to them hour by hour. */
    private static final class Traffic {
        static final int MOST = 30;

        int clock;
        int sortingHours;
        final int[] closedFrom = new int[SIDE];
        final int[] closedTo = new int[SIDE];
        int many;
        private final int[] at = new int[MOST];
        private final int[] goal = new int[MOST];
        private final int[] inTrain = new int[MOST];
        private final int[] since = new int[MOST];
        private final int[] rides = new int[MOST];
        private final int[] done = new int[MOST];

        void begin() {
            clock = 0;
            sortingHours = 2;
            many = 0;
            Arrays.fill(closedFrom, NONE);
            Arrays.fill(closedTo, NONE);
        }

        boolean has(int w) {
            return w >= 0 && w < many;
        }

        /** Adds a wagon; the caller has seen that there is room. */
        int add(int yard, int itsGoal) {
            int number = many;
            at[number] = yard;
            goal[number] = itsGoal;
            inTrain[number] = NONE;
            since[number] = clock;
            rides[number] = 0;
            done[number] = 0;
            many++;
            return number;
        }

        void passHour(Timetable trains, Blocks blocks) {
            comeIn(trains);
            for (int t = 0; t < trains.many; t++) {
                if (trains.isDue(t, clock)) {
                    leaveOrStay(t, trains, blocks);
                }
            }
            clock++;
        }

        private void comeIn(Timetable trains) {
            for (int w = 0; w < many; w++) {
                if (inTrain[w] == NONE || since[w] != clock) {
                    continue;
                }
                int yard = trains.to[inTrain[w]];
                inTrain[w] = NONE;
                if (goal[w] == yard) {
                    done[w] = 1;
                } else {
                    at[w] = yard;
                    since[w] = clock + sortingHours;
                }
            }
        }

        private boolean isClosed(int yard) {
            int day = clock / DAY;
            return day >= closedFrom[yard] && day <= closedTo[yard];
        }

        private void leaveOrStay(int t, Timetable trains, Blocks blocks) {
            if (isClosed(trains.from[t]) || isClosed(trains.to[t])) {
                trains.noteShut(t);
                return;
            }
            int taken = take(t, trains.blockOne[t], trains.length[t], trains, blocks);
            if (trains.blockTwo[t] != NONE) {
                taken += take(t, trains.blockTwo[t], trains.length[t] - taken, trains, blocks);
            }
            trains.noteLeaving(t, clock, taken);
        }

        /** A train takes wagons of a block while there is room: how many. */
        private int take(int t, int block, int room, Timetable trains, Blocks blocks) {
            for (int taken = 0; taken < room; taken++) {
                int w = nextFor(block, blocks);
                if (w == NONE) {
                    return taken;
                }
                at[w] = NONE;
                inTrain[w] = t;
                since[w] = clock + trains.takes[t];
                rides[w]++;
            }
            return room;
        }

        /** The wagon for a block that has been ready longest, of like ones the least number. */
        private int nextFor(int block, Blocks blocks) {
            int found = NONE;
            for (int w = 0; w < many; w++) {
                if (at[w] != blocks.from[block] || since[w] > clock) {
                    continue;
                }
                boolean fits = blocks.chosen[at[w] * SIDE + goal[w]] == block;
                if (fits && (found == NONE || since[w] < since[found])) {
                    found = w;
                }
            }
            return found;
        }

        int standingAt(int yard, boolean readyAlone) {
            int sum = 0;
            for (int w = 0; w < many; w++) {
                if (at[w] == yard && (!readyAlone || since[w] <= clock)) {
                    sum++;
                }
            }
            return sum;
        }

        int doneMany() {
            int sum = 0;
            for (int w = 0; w < many; w++) {
                sum += done[w];
            }
            return sum;
        }

        int runningMany() {
            int sum = 0;
            for (int w = 0; w < many; w++) {
                sum += inTrain[w] != NONE ? 1 : 0;
            }
            return sum;
        }

        int tell(int w, int what) {
            switch (what) {
                case 0: return at[w];
                case 1: return inTrain[w];
                case 2: return since[w];
                case 3: return rides[w];
                case 4: return done[w];
                default: return goal[w];
            }
        }

        long digestOnto(long begun) {
            long h = begun;
            for (int w = 0; w < many; w++) {
                for (int what = 0; what <= 5; what++) {
                    h = 31 * h + tell(w, what);
                }
            }
            return 31 * h + clock;
        }
    }

    /** A row of wagons that is sorted over few tracks. */
    private static final class Row {
        static final int MOST = 16;

        int many;
        final int[] numbers = new int[MOST];
        final int[] standing = new int[MOST];
        private final int[] marks = new int[MOST];
        private final int[] wanted = new int[MOST];
        private final int[] rolled = new int[MOST];

        boolean has(int i) {
            return i >= 0 && i < many;
        }

        /** Adds a wagon; the caller has seen that there is room. */
        void add(int mark) {
            marks[many] = mark;
            many++;
        }

        void giveNumbers() {
            orderByMarks();
            int number = 0;
            for (int i = 0; i < many; i++) {
                if (i > 0 && wanted[i] < wanted[i - 1]) {
                    number++;
                }
                numbers[wanted[i]] = number;
            }
        }

        /** Fills wanted with places in the row, by marks, of like marks as they stood. */
        private void orderByMarks() {
            for (int i = 0; i < many; i++) {
                int free = i;
                for (int j = i; j > 0 && marks[wanted[j - 1]] > marks[i]; j--) {
                    wanted[j] = wanted[j - 1];
                    free = j - 1;
                }
                wanted[free] = i;
            }
        }

        /** The row has its numbers already. Sixteen wagons have numbers below 16, so that four steps do. */
        int stepsBy(int tracks) {
            int greatest = 0;
            for (int i = 0; i < many; i++) {
                greatest = Math.max(greatest, numbers[i]);
            }
            int power = 1;
            int steps = 0;
            for (int i = 0; i < MOST && power <= greatest; i++) {
                power *= tracks;
                steps++;
            }
            return steps;
        }

        /** Fills standing with the row behind so many steps; it has its numbers already. */
        void sortBy(int tracks, int steps) {
            for (int i = 0; i < many; i++) {
                standing[i] = i;
            }
            int unit = 1;
            for (int step = 0; step < steps; step++) {
                rollOnce(tracks, unit);
                unit *= tracks;
            }
        }

        private void rollOnce(int tracks, int unit) {
            if (unit < 1 || tracks < 1) {
                return;
            }
            int put = 0;
            for (int track = 0; track < tracks; track++) {
                for (int i = 0; i < many; i++) {
                    if (numbers[standing[i]] / unit % tracks == track) {
                        rolled[put] = standing[i];
                        put++;
                    }
                }
            }
            System.arraycopy(rolled, 0, standing, 0, put);
        }

        long digestOnto(long begun) {
            long h = begun;
            for (int i = 0; i < many; i++) {
                h = 31 * h + marks[i];
            }
            return h;
        }
    }

    /** Loads, and the nets of blocks that carry them. */
    private static final class Nets {
        static final int MOST_PROVEN = 4;

        int handling;
        final int[] loads = new int[SIDE * SIDE];
        final int[] trackCount = new int[SIDE];
        /** NONE, both of them, if there is no net that carries all loads. */
        int bestCost;
        long bestNet;
        private boolean bestIsKnown;
        private final int[] lengths = new int[SIDE * SIDE];

        void begin() {
            handling = 20;
            Arrays.fill(loads, 0);
            Arrays.fill(trackCount, 2);
            forget();
        }

        /** To be called ahead of each change of what the best net hangs on. */
        void forget() {
            bestIsKnown = false;
        }

        static long fullNet(int yards) {
            long net = 0;
            for (int a = 0; a < yards; a++) {
                for (int b = 0; b < yards; b++) {
                    net |= a == b ? 0L : 1L << a * SIDE + b;
                }
            }
            return net;
        }

        boolean allows(long net, int yards) {
            return (net & ~fullNet(yards)) == 0 && fitsTracks(net, yards);
        }

        private boolean fitsTracks(long net, int yards) {
            for (int a = 0; a < yards; a++) {
                if (Long.bitCount(net >>> a * SIDE & 255) > trackCount[a]) {
                    return false;
                }
            }
            return true;
        }

        int costOf(long net, Land land) {
            lay(net, land);
            Land.shorten(lengths, land.yards, handling);
            int sum = 0;
            for (int a = 0; a < land.yards; a++) {
                for (int d = 0; d < land.yards; d++) {
                    int load = loads[a * SIDE + d];
                    if (load > 0 && lengths[a * SIDE + d] >= UNREACHED) {
                        return NONE;
                    }
                    sum += load > 0 ? load * lengths[a * SIDE + d] : 0;
                }
            }
            return sum;
        }

        private void lay(long net, Land land) {
            for (int a = 0; a < land.yards; a++) {
                for (int b = 0; b < land.yards; b++) {
                    int cell = a * SIDE + b;
                    lengths[cell] = (net >>> cell & 1) != 0 ? land.miles[cell] : UNREACHED;
                }
            }
        }

        /** Looks at all nets, the least as a number first, so that a later one must be better to count. */
        void findBest(Land land) {
            if (bestIsKnown || land.yards > MOST_PROVEN) {
                return;
            }
            bestCost = NONE;
            bestNet = NONE;
            int bits = (land.yards - 1) * land.yards;
            for (int code = 0; code < 1 << bits; code++) {
                long net = netOf(code, land.yards);
                if (fitsTracks(net, land.yards)) {
                    weigh(net, costOf(net, land));
                }
            }
            bestIsKnown = true;
        }

        private void weigh(long net, int cost) {
            if (cost == NONE) {
                return;
            }
            boolean fewer = Long.bitCount(net) < Long.bitCount(bestNet);
            if (bestCost == NONE || cost < bestCost || cost == bestCost && fewer) {
                bestCost = cost;
                bestNet = net;
            }
        }

        /** A code has a bit for each yard and each other one; a net has also those for a yard and itself. */
        private static long netOf(int code, int yards) {
            long net = 0;
            for (int a = 0; a < yards; a++) {
                int others = code >> a * (yards - 1) & (1 << yards - 1) - 1;
                int lower = others & (1 << a) - 1;
                int upper = others >> a << a + 1;
                net |= (long) (lower | upper) << a * SIDE;
            }
            return net;
        }

        long digestOnto(long begun, int yards) {
            long h = begun;
            for (int a = 0; a < yards; a++) {
                for (int d = 0; d < yards; d++) {
                    h = 31 * h + loads[a * SIDE + d];
                }
            }
            for (int a = 0; a < yards; a++) {
                h = 31 * h + trackCount[a];
            }
            return h;
        }
    }

    /** Empty wagons that are over or wanted, and what it costs to send them. */
    private static final class Empties {
        private static final int MOST = SIDE * WEEKS;
        /** Each sending moves one empty at least, and fewer than this can be wanted. */
        private static final int MOST_SENDINGS = 50 * MOST;

        int stayPrice;
        final int[] over = new int[MOST];
        private int givers;
        private int takers;
        private final int[] giver = new int[MOST];
        private final int[] taker = new int[MOST];
        private final int[] left = new int[MOST];
        private final int[] wanted = new int[MOST];
        private final int[] fare = new int[MOST * MOST];
        private final int[] sent = new int[MOST * MOST];
        /** What it costs to have one more there, and from where that one comes. */
        private final int[] giverCost = new int[MOST];
        private final int[] takerCost = new int[MOST];
        private final int[] giverFrom = new int[MOST];
        private final int[] takerFrom = new int[MOST];

        void begin() {
            stayPrice = 5;
            Arrays.fill(over, 0);
        }

        /** Sends by cheapest ways one after another, taking back what was sent where that is cheaper. */
        int leastPaid(Land land) {
            gather(land.yards);
            land.measure();
            setFares(land);
            int paid = 0;
            for (int sending = 0; sending < MOST_SENDINGS; sending++) {
                if (!isWanting()) {
                    return paid;
                }
                spread();
                int last = cheapestTaker();
                if (last == NONE) {
                    return NONE;
                }
                int amount = amountTo(last);
                send(last, amount);
                paid += amount * takerCost[last];
            }
            return isWanting() ? NONE : paid;
        }

        private void gather(int yards) {
            givers = 0;
            takers = 0;
            for (int place = 0; place < yards * WEEKS; place++) {
                if (over[place] > 0) {
                    giver[givers] = place;
                    left[givers] = over[place];
                    givers++;
                } else if (over[place] < 0) {
                    taker[takers] = place;
                    wanted[takers] = -over[place];
                    takers++;
                }
            }
        }

        /** Going on over other yards or weeks is never cheaper than the shortest way and the weeks between. */
        private void setFares(Land land) {
            for (int g = 0; g < givers; g++) {
                for (int t = 0; t < takers; t++) {
                    int weeks = taker[t] % WEEKS - giver[g] % WEEKS;
                    int miles = land.nearest[giver[g] / WEEKS * SIDE + taker[t] / WEEKS];
                    fare[g * MOST + t] = weeks < 0 ? UNREACHED : miles + weeks * stayPrice;
                    sent[g * MOST + t] = 0;
                }
            }
        }

        private boolean isWanting() {
            for (int t = 0; t < takers; t++) {
                if (wanted[t] > 0) {
                    return true;
                }
            }
            return false;
        }

        /** Finds the cheapest ways from givers that have some left to all takers. */
        private void spread() {
            for (int g = 0; g < givers; g++) {
                giverCost[g] = left[g] > 0 ? 0 : UNREACHED;
                giverFrom[g] = NONE;
            }
            for (int t = 0; t < takers; t++) {
                takerCost[t] = UNREACHED;
                takerFrom[t] = NONE;
            }
            boolean better = true;
            for (int round = 0; round <= MOST && better; round++) {
                better = spreadForth();
                better = spreadBack() || better;
            }
        }

        private boolean spreadForth() {
            boolean better = false;
            for (int g = 0; g < givers; g++) {
                for (int t = 0; t < takers; t++) {
                    int sum = giverCost[g] + fare[g * MOST + t];
                    boolean opens = giverCost[g] < UNREACHED && fare[g * MOST + t] < UNREACHED;
                    if (opens && sum < takerCost[t]) {
                        takerCost[t] = sum;
                        takerFrom[t] = g;
                        better = true;
                    }
                }
            }
            return better;
        }

        private boolean spreadBack() {
            boolean better = false;
            for (int g = 0; g < givers; g++) {
                for (int t = 0; t < takers; t++) {
                    int sum = takerCost[t] - fare[g * MOST + t];
                    boolean opens = takerCost[t] < UNREACHED && sent[g * MOST + t] > 0;
                    if (opens && sum < giverCost[g]) {
                        giverCost[g] = sum;
                        giverFrom[g] = t;
                        better = true;
                    }
                }
            }
            return better;
        }

        private int cheapestTaker() {
            int found = NONE;
            for (int t = 0; t < takers; t++) {
                boolean reached = wanted[t] > 0 && takerCost[t] < UNREACHED;
                if (reached && (found == NONE || takerCost[t] < takerCost[found])) {
                    found = t;
                }
            }
            return found;
        }

        /** How many can go by the way that was found to a taker. */
        private int amountTo(int last) {
            int amount = wanted[last];
            int t = last;
            for (int i = 0; i < MOST && t != NONE; i++) {
                int g = takerFrom[t];
                if (g == NONE) {
                    return 0;
                }
                t = giverFrom[g];
                amount = Math.min(amount, t == NONE ? left[g] : sent[g * MOST + t]);
            }
            return amount;
        }

        private void send(int last, int amount) {
            wanted[last] -= amount;
            int t = last;
            for (int i = 0; i < MOST && t != NONE; i++) {
                int g = takerFrom[t];
                if (g == NONE) {
                    return;
                }
                sent[g * MOST + t] += amount;
                t = giverFrom[g];
                if (t == NONE) {
                    left[g] -= amount;
                } else {
                    sent[g * MOST + t] -= amount;
                }
            }
        }

        long digestOnto(long begun, int yards) {
            long h = begun;
            for (int place = 0; place < yards * WEEKS; place++) {
                h = 31 * h + over[place];
            }
            return h;
        }
    }

    /** The legs of a wagon that may be missed, and the chance to be in time. */
    private static final class Legs {
        static final int MOST = 5;
        private static final int MOST_MISSES = 5;
        private static final int WAIT = 24;

        int many;
        /** The share found last, in lowest terms. */
        long above;
        long below;
        private final int[] hours = new int[MOST];
        private final int[] tenths = new int[MOST];
        private final long[] missing = new long[MOST_MISSES + 1];

        /** Adds a leg; the caller has seen that there is room. */
        void add(int itsHours, int itsTenths) {
            hours[many] = itsHours;
            tenths[many] = itsTenths;
            many++;
        }

        private int hoursUnmissed() {
            int sum = 0;
            for (int i = 0; i < many; i++) {
                sum += hours[i];
            }
            return sum;
        }

        void shareWithin(int limit) {
            int spareHours = limit - hoursUnmissed();
            if (spareHours < 0) {
                above = 0;
                below = 1;
            } else {
                shareOf(Math.min(MOST_MISSES, spareHours / WAIT));
            }
        }

        /** The least hours by which the share is so many thousandths: more hours help only by one more miss. */
        int hoursFor(int thousandths) {
            for (int misses = 0; misses <= MOST_MISSES; misses++) {
                shareOf(misses);
                if (above * 1000 >= below * thousandths) {
                    return hoursUnmissed() + WAIT * misses;
                }
            }
            return NONE;
        }

        /** The chance of at most so many misses in all; ten legs and misses at most keep it below 10 to the 10. */
        private void shareOf(int misses) {
            countMissing();
            long sum = 0;
            long whole = 1;
            for (int m = 0; m <= misses; m++) {
                sum = 10 * sum + missing[m];
                whole *= m > 0 ? 10 : 1;
            }
            for (int i = 0; i < many; i++) {
                sum *= 10 - tenths[i];
                whole *= 10;
            }
            reduce(sum, whole);
        }

        /** missing[m]: over all ways to share m misses among the legs, the product of their tenths. */
        private void countMissing() {
            Arrays.fill(missing, 0);
            missing[0] = 1;
            for (int i = 0; i < many; i++) {
                for (int m = 1; m <= MOST_MISSES; m++) {
                    missing[m] += tenths[i] * missing[m - 1];
                }
            }
        }

        private void reduce(long sum, long whole) {
            long divisor = whole;
            long rest = sum;
            for (int i = 0; i < 100 && rest != 0; i++) {
                long next = divisor % rest;
                divisor = rest;
                rest = next;
            }
            above = divisor > 0 ? sum / divisor : sum;
            below = divisor > 0 ? whole / divisor : whole;
        }

        long digestOnto(long begun) {
            long h = begun;
            for (int i = 0; i < many; i++) {
                h = 31 * (31 * h + hours[i]) + tenths[i];
            }
            return h;
        }
    }

    /** The least change of blocks so that all still comes when a yard is closed. */
    private static final class Detour {
        static final int MOST_DONE = 20;
        private static final int MOST_TURNED = 4;

        int done;
        /** How many blocks are changed; NONE if there is no choice that does. */
        int changed;
        /** For which yard each block is made then. */
        final int[] best = new int[Blocks.MOST];
        private final int[] target = new int[Blocks.MOST];
        private final int[] turned = new int[MOST_TURNED];
        private int turnedMany;

        /** Finds the blocks made for a yard: whether they are few enough. */
        boolean gather(int closed, Blocks blocks) {
            turnedMany = 0;
            for (int b = 0; b < blocks.many; b++) {
                if (blocks.to[b] != closed) {
                    continue;
                }
                if (turnedMany >= MOST_TURNED) {
                    return false;
                }
                turned[turnedMany] = b;
                turnedMany++;
            }
            return true;
        }

        /** Looks at all choices in their order, so that a later one must change fewer blocks to count. */
        void seek(int closed, int yards, Blocks blocks, int[] loads) {
            changed = NONE;
            System.arraycopy(blocks.to, 0, target, 0, Blocks.MOST);
            int choices = 1;
            for (int i = 0; i < turnedMany; i++) {
                choices *= yards + 1;
            }
            for (int code = 0; code < choices && changed != 0; code++) {
                int moved = turn(code, closed, yards, blocks);
                boolean counts = moved != NONE && (changed == NONE || moved < changed);
                if (counts && allCome(closed, yards, blocks, loads)) {
                    changed = moved;
                    System.arraycopy(target, 0, best, 0, Blocks.MOST);
                }
            }
        }

        /**
         * Makes a choice: the figures of the code, the first block's highest, tell 0 for one that stays
         * and else one more than its new yard. How many are changed, or NONE if it is no choice.
         */
        private int turn(int code, int closed, int yards, Blocks blocks) {
            if (yards < 1) {
                return NONE;
            }
            int moved = 0;
            int figures = code;
            for (int i = turnedMany - 1; i >= 0; i--) {
                int yard = figures % (yards + 1) - 1;
                figures /= yards + 1;
                int block = turned[i];
                if (yard == closed || yard == blocks.from[block]) {
                    return NONE;
                }
                target[block] = yard < 0 ? closed : yard;
                moved += yard < 0 ? 0 : 1;
            }
            return moved;
        }

        private boolean allCome(int closed, int yards, Blocks blocks, int[] loads) {
            for (int a = 0; a < yards; a++) {
                for (int d = 0; d < yards; d++) {
                    boolean matters = a != closed && d != closed && loads[a * SIDE + d] > 0;
                    if (matters && !comesPast(a, d, closed, blocks)) {
                        return false;
                    }
                }
            }
            return true;
        }

        private boolean comesPast(int a, int d, int closed, Blocks blocks) {
            return blocks.follow(a, d, target) && !blocks.stopsInclude(closed);
        }
    }
}
