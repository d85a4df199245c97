import java.math.BigInteger;
import java.util.ArrayList;
import java.util.Arrays;
import java.util.Comparator;
import java.util.HashSet;
import java.util.LinkedHashSet;
import java.util.List;
import java.util.Set;
import java.util.regex.Matcher;
import java.util.regex.Pattern;

/** The document once more, written straight from its words with the Java library and without thrift. */
final class Plain {
    static final int NONE = -1, UNKNOWN = -101, OUTSIDE = -102, STATE = -103, FULL = -104;

    private static final class Block {
        int from, to, rank;
        Set<Integer> takes = new HashSet<>();
    }

    private static final class Wagon {
        Integer yard;
        Running running;
        int since, trains, goal;
        boolean done;
    }

    private static final class Train {
        List<Block> blocks = new ArrayList<>();
        int days, hour, takes, length, left, took, closed;
        List<Running> running = new ArrayList<>();
    }

    private static final class Running {
        Train train;
        int comes;
        List<Wagon> wagons = new ArrayList<>();
    }

    private int n;
    private int[][] miles;
    private String page;
    private List<Block> blocks;
    private List<Train> trains;
    private List<Wagon> wagons;
    private int clock, sorting, rest, handling, stayPrice, changesDone;
    private int[][] closed;
    private List<Integer> row;
    private int[][] loads;
    private int[] tracks;
    private int[][] empties;
    private List<int[]> legs;

    Plain() {
        fresh(4);
    }

    private void fresh(int yards) {
        n = yards;
        miles = new int[n][n];
        for (int a = 0; a < n; a++) {
            Arrays.fill(miles[a], 10);
            miles[a][a] = 0;
        }
        page = "";
        blocks = new ArrayList<>();
        trains = new ArrayList<>();
        wagons = new ArrayList<>();
        clock = 0;
        sorting = 2;
        rest = 8;
        handling = 20;
        stayPrice = 5;
        changesDone = 0;
        closed = new int[n][];
        row = new ArrayList<>();
        loads = new int[n][n];
        tracks = new int[n];
        Arrays.fill(tracks, 2);
        empties = new int[n][3];
        legs = new ArrayList<>();
    }

    private boolean yes(int y) {
        return 0 <= y && y < n;
    }

    private static boolean in(int v, int low, int high) {
        return low <= v && v <= high;
    }

    int land(int yards) {
        if (!in(yards, 2, 8)) return OUTSIDE;
        fresh(yards);
        return yards;
    }

    int miles(int a, int b, int v) {
        if (!yes(a) || !yes(b) || a == b) return UNKNOWN;
        if (!in(v, 1, 99)) return OUTSIDE;
        int was = miles[a][b];
        miles[a][b] = miles[b][a] = v;
        return was;
    }

    /** Least length from a to each yard over the lengths told, relaxed until nothing changes. */
    private static int[] spread(int[][] length, int a, int toll) {
        int n = length.length;
        int[] best = new int[n];
        Arrays.fill(best, Integer.MAX_VALUE);
        best[a] = 0;
        boolean changed = true;
        while (changed) {
            changed = false;
            for (int u = 0; u < n; u++) {
                for (int v = 0; v < n; v++) {
                    if (best[u] == Integer.MAX_VALUE || length[u][v] < 0 || u == v) continue;
                    int sum = best[u] + length[u][v] + (u == a ? 0 : toll);
                    if (sum < best[v]) {
                        best[v] = sum;
                        changed = true;
                    }
                }
            }
        }
        return best;
    }

    int far(int a, int b) {
        if (!yes(a) || !yes(b)) return UNKNOWN;
        return spread(miles, a, 0)[b];
    }

    int letters(long w) {
        StringBuilder more = new StringBuilder();
        boolean ended = false;
        for (int i = 0; i < 8; i++) {
            int code = (int) (w & 0xFF);
            w >>>= 8;
            if (code > 126 || ended && code != 0) return OUTSIDE;
            if (code == 0) ended = true;
            else more.append((char) code);
        }
        if (page.length() + more.length() > 40) return FULL;
        page += more;
        return page.length();
    }

    int blank() {
        int had = page.length();
        page = "";
        return had;
    }

    private static final Pattern TEXT = Pattern.compile("([A-H])>([A-H]):([A-H]+)(?:/([1-9]))?", Pattern.DOTALL);

    private Block read(String text) {
        Matcher m = TEXT.matcher(text);
        if (!m.matches()) return null;
        Block block = new Block();
        block.from = m.group(1).charAt(0) - 'A';
        block.to = m.group(2).charAt(0) - 'A';
        block.rank = m.group(4) == null ? 5 : Integer.parseInt(m.group(4));
        for (char c : m.group(3).toCharArray()) {
            if (!yes(c - 'A') || !block.takes.add(c - 'A')) return null;
        }
        if (!yes(block.from) || !yes(block.to) || block.from == block.to || block.takes.contains(block.from)) return null;
        return block;
    }

    private boolean begins(String head) {
        if (read(head) != null || read(head + "1") != null) return true;
        for (int a = 0; a < n; a++) {
            for (int b = 0; b < n; b++) {
                for (int c = 0; c < n; c++) {
                    String whole = (char) ('A' + a) + ">" + (char) ('A' + b) + ":" + (char) ('A' + c);
                    for (int cut = 0; cut < whole.length(); cut++) {
                        if (read(head + whole.substring(cut)) != null) return true;
                    }
                }
            }
        }
        return false;
    }

    int good() {
        int most = Math.min(page.length(), 13);
        for (int k = most; k > 0; k--) {
            if (begins(page.substring(0, k))) return k;
        }
        return 0;
    }

    int block() {
        Block block = read(page);
        if (block == null) return STATE;
        if (blocks.size() == 20) return FULL;
        blocks.add(block);
        page = "";
        return blocks.size() - 1;
    }

    int about(int b, int what) {
        if (!in(b, 0, blocks.size() - 1)) return UNKNOWN;
        if (!in(what, 0, 3)) return OUTSIDE;
        Block block = blocks.get(b);
        int bits = 0;
        for (int y : block.takes) bits += 1 << y;
        return new int[] {block.from, block.to, bits, block.rank}[what];
    }

    private Block blockFor(int a, int d) {
        return blocks.stream().filter(b -> b.from == a && b.takes.contains(d))
            .max(Comparator.<Block>comparingInt(b -> b.rank).thenComparing(Comparator.comparingInt((Block b) -> -blocks.indexOf(b))))
            .orElse(null);
    }

    int goes(int a, int d) {
        if (!yes(a) || !yes(d)) return UNKNOWN;
        Block block = blockFor(a, d);
        return block == null ? NONE : blocks.indexOf(block);
    }

    private List<Integer> wayOf(int a, int d) {
        LinkedHashSet<Integer> seen = new LinkedHashSet<>();
        int at = a;
        seen.add(at);
        while (at != d) {
            Block block = blockFor(at, d);
            if (block == null || !seen.add(block.to)) return null;
            at = block.to;
        }
        return new ArrayList<>(seen);
    }

    int way(int a, int d, int what) {
        if (!yes(a) || !yes(d)) return UNKNOWN;
        if (!in(what, 0, 1) && !in(what, 10, 18)) return OUTSIDE;
        List<Integer> way = wayOf(a, d);
        if (way == null) return NONE;
        if (what == 0) return (int) way.stream().filter(y -> y != a && y != d).count();
        if (what >= 10) return what - 10 < way.size() ? way.get(what - 10) : NONE;
        int sum = 0;
        for (int i = 0; i + 1 < way.size(); i++) sum += miles[way.get(i)][way.get(i + 1)];
        return sum;
    }

    int lost() {
        int sum = 0;
        for (int a = 0; a < n; a++) {
            for (int d = 0; d < n; d++) {
                if (a != d && wayOf(a, d) == null) sum++;
            }
        }
        return sum;
    }

    int train(int x, int y, int days, int hour, int takes, int length) {
        if (!in(x, 0, blocks.size() - 1)) return UNKNOWN;
        if (y != NONE && !in(y, 0, blocks.size() - 1)) return UNKNOWN;
        Train train = new Train();
        train.blocks.add(blocks.get(x));
        if (y != NONE) {
            train.blocks.add(blocks.get(y));
            if (blocks.get(x).from != blocks.get(y).from || blocks.get(x).to != blocks.get(y).to) return UNKNOWN;
        }
        if (!in(days, 1, 127) || !in(hour, 0, 23) || !in(takes, 1, 48) || !in(length, 1, 12)) return OUTSIDE;
        if (trains.size() == 12) return FULL;
        train.days = days;
        train.hour = hour;
        train.takes = takes;
        train.length = length;
        trains.add(train);
        return trains.size() - 1;
    }

    int wagon(int at, int goal) {
        if (!yes(at) || !yes(goal) || at == goal) return UNKNOWN;
        if (wagons.size() == 30) return FULL;
        Wagon w = new Wagon();
        w.yard = at;
        w.goal = goal;
        w.since = clock;
        wagons.add(w);
        return wagons.size() - 1;
    }

    int sorting(int s) {
        if (!in(s, 0, 12)) return OUTSIDE;
        int was = sorting;
        sorting = s;
        return was;
    }

    int close(int yard, int from, int to) {
        if (!yes(yard)) return UNKNOWN;
        if (from == NONE && to == NONE) {
            closed[yard] = null;
            return 1;
        }
        if (!in(from, 0, 99) || !in(to, 0, 99) || to < from) return OUTSIDE;
        closed[yard] = new int[] {from, to};
        return 1;
    }

    private boolean isClosed(int yard) {
        return closed[yard] != null && in(clock / 24, closed[yard][0], closed[yard][1]);
    }

    int pass(int hours) {
        if (!in(hours, 1, 200)) return OUTSIDE;
        if (clock + hours > 2000) return STATE;
        for (int i = 0; i < hours; i++) anHour();
        return clock;
    }

    private void anHour() {
        for (Train t : trains) {
            for (Running r : new ArrayList<>(t.running)) {
                if (r.comes == clock) comeIn(r);
            }
        }
        for (Train t : trains) {
            boolean today = (t.days & 1 << clock / 24 % 7) != 0;
            if (today && t.hour == clock % 24) leave(t);
        }
        clock++;
    }

    private void comeIn(Running r) {
        r.train.running.remove(r);
        int yard = r.train.blocks.get(0).to;
        for (Wagon w : r.wagons) {
            w.running = null;
            if (w.goal == yard) {
                w.done = true;
                w.since = clock;
            } else {
                w.yard = yard;
                w.since = clock + sorting;
            }
        }
    }

    private void leave(Train t) {
        int from = t.blocks.get(0).from;
        if (isClosed(from) || isClosed(t.blocks.get(0).to)) {
            t.closed++;
            return;
        }
        Running r = new Running();
        r.train = t;
        r.comes = clock + t.takes;
        for (Block b : t.blocks) {
            wagons.stream()
                .filter(w -> w.yard != null && w.yard == from && w.since <= clock && blockFor(from, w.goal) == b)
                .sorted(Comparator.comparingInt(w -> w.since))
                .limit(t.length - r.wagons.size()).toList()
                .forEach(w -> {
                    w.yard = null;
                    w.running = r;
                    w.since = r.comes;
                    w.trains++;
                    r.wagons.add(w);
                });
        }
        t.left++;
        t.took += r.wagons.size();
        t.running.add(r);
    }

    int wagonIs(int w, int what) {
        if (!in(w, 0, wagons.size() - 1)) return UNKNOWN;
        if (!in(what, 0, 5)) return OUTSIDE;
        Wagon x = wagons.get(w);
        switch (what) {
            case 0: return x.yard == null ? NONE : x.yard;
            case 1: return x.running == null ? NONE : trains.indexOf(x.running.train);
            case 2: return x.since;
            case 3: return x.trains;
            case 4: return x.done ? 1 : 0;
            default: return x.goal;
        }
    }

    int trainIs(int t, int what) {
        if (!in(t, 0, trains.size() - 1)) return UNKNOWN;
        if (!in(what, 0, 3)) return OUTSIDE;
        Train x = trains.get(t);
        return new int[] {x.left, x.took, x.closed, x.running.size()}[what];
    }

    int yard(int y, int what) {
        if (!yes(y)) return UNKNOWN;
        if (!in(what, 0, 1)) return OUTSIDE;
        return (int) wagons.stream().filter(w -> w.yard != null && w.yard == y && (what == 0 || w.since <= clock)).count();
    }

    int rest(int r) {
        if (!in(r, 0, 48)) return OUTSIDE;
        int was = rest;
        rest = r;
        return was;
    }

    int crews(int what) {
        if (!in(what, 0, 2)) return OUTSIDE;
        List<int[]> duties = new ArrayList<>();
        for (Train t : trains) {
            for (int day = 0; day < 7; day++) {
                if ((t.days & 1 << day) != 0) {
                    int begin = 24 * day + t.hour;
                    duties.add(new int[] {t.blocks.get(0).from, begin, t.blocks.get(0).to, begin + t.takes});
                }
            }
        }
        if (what == 0) return duties.size();
        if (what == 2) return duties.stream().mapToInt(d -> d[3] - d[1]).sum();
        // The most followings, each duty followed once and following once, by augmenting ways.
        int[] behind = new int[duties.size()];
        Arrays.fill(behind, -1);
        int links = 0;
        for (int i = 0; i < duties.size(); i++) {
            if (link(i, duties, behind, new boolean[duties.size()])) links++;
        }
        return duties.size() - links;
    }

    private boolean link(int i, List<int[]> duties, int[] behind, boolean[] tried) {
        for (int j = 0; j < duties.size(); j++) {
            boolean may = duties.get(j)[0] == duties.get(i)[2] && duties.get(j)[1] >= duties.get(i)[3] + rest;
            if (!may || tried[j]) continue;
            tried[j] = true;
            if (behind[j] < 0 || link(behind[j], duties, behind, tried)) {
                behind[j] = i;
                return true;
            }
        }
        return false;
    }

    int drive() {
        int had = row.size();
        row.clear();
        return had;
    }

    int roll(int mark) {
        if (!in(mark, 0, 15)) return OUTSIDE;
        if (row.size() == 16) return FULL;
        row.add(mark);
        return row.size();
    }

    private int[] numbers() {
        List<Integer> order = new ArrayList<>();
        for (int i = 0; i < row.size(); i++) order.add(i);
        order.sort(Comparator.comparingInt(row::get));
        int[] numbers = new int[row.size()];
        for (int k = 1; k < order.size(); k++) {
            int ahead = order.get(k - 1);
            numbers[order.get(k)] = numbers[ahead] + (order.get(k) > ahead ? 0 : 1);
        }
        return numbers;
    }

    int number(int i) {
        if (!in(i, 0, row.size() - 1)) return UNKNOWN;
        return numbers()[i];
    }

    int steps(int t) {
        if (!in(t, 2, 8)) return OUTSIDE;
        if (row.isEmpty()) return STATE;
        int greatest = Arrays.stream(numbers()).max().getAsInt();
        return greatest == 0 ? 0 : Integer.toString(greatest, t).length();
    }

    int stands(int t, int k, int i) {
        if (!in(i, 0, row.size() - 1)) return UNKNOWN;
        if (!in(t, 2, 8) || !in(k, 0, steps(t))) return OUTSIDE;
        int[] numbers = numbers();
        List<Integer> now = new ArrayList<>();
        for (int w = 0; w < row.size(); w++) now.add(w);
        for (int step = 0; step < k; step++) {
            List<List<Integer>> on = new ArrayList<>();
            for (int track = 0; track < t; track++) on.add(new ArrayList<>());
            for (int w : now) {
                String figures = new StringBuilder(Integer.toString(numbers[w], t)).reverse().toString();
                on.get(step < figures.length() ? figures.charAt(step) - '0' : 0).add(w);
            }
            now = new ArrayList<>();
            for (List<Integer> track : on) now.addAll(track);
        }
        return now.get(i);
    }

    int load(int a, int d, int v) {
        if (!yes(a) || !yes(d) || a == d) return UNKNOWN;
        if (!in(v, 0, 99)) return OUTSIDE;
        int was = loads[a][d];
        loads[a][d] = v;
        return was;
    }

    int tracks(int yard, int v) {
        if (!yes(yard)) return UNKNOWN;
        if (!in(v, 0, 7)) return OUTSIDE;
        int was = tracks[yard];
        tracks[yard] = v;
        return was;
    }

    int price(int which, int v) {
        if (!in(which, 0, 1)) return UNKNOWN;
        if (!in(v, 0, 99)) return OUTSIDE;
        int was = which == 0 ? handling : stayPrice;
        if (which == 0) handling = v;
        else stayPrice = v;
        return was;
    }

    private int costOf(long net) {
        int[][] length = new int[n][n];
        for (int a = 0; a < n; a++) {
            for (int b = 0; b < n; b++) length[a][b] = (net >>> 8 * a + b & 1) == 1 ? miles[a][b] : -1;
        }
        int sum = 0;
        for (int a = 0; a < n; a++) {
            int[] from = spread(length, a, handling);
            for (int d = 0; d < n; d++) {
                if (loads[a][d] == 0) continue;
                if (from[d] == Integer.MAX_VALUE) return NONE;
                sum += loads[a][d] * from[d];
            }
        }
        return sum;
    }

    int cost(long net) {
        int[] made = new int[n];
        for (int bit = 0; bit < 64; bit++) {
            if ((net >>> bit & 1) == 0) continue;
            int a = bit / 8;
            int b = bit % 8;
            if (!yes(a) || !yes(b) || a == b) return OUTSIDE;
            made[a]++;
        }
        for (int a = 0; a < n; a++) {
            if (made[a] > tracks[a]) return OUTSIDE;
        }
        return costOf(net);
    }

    long net(int what) {
        if (!in(what, 0, 2)) return OUTSIDE;
        List<Integer> pairs = new ArrayList<>();
        long full = 0;
        for (int a = 0; a < n; a++) {
            for (int b = 0; b < n; b++) {
                if (a != b) {
                    pairs.add(8 * a + b);
                    full |= 1L << 8 * a + b;
                }
            }
        }
        if (what == 2) return costOf(full);
        if (n > 4) return STATE;
        long[] best = null;
        for (int set = 0; set < 1 << pairs.size(); set++) {
            long net = 0;
            for (int i = 0; i < pairs.size(); i++) net |= (long) (set >> i & 1) << pairs.get(i);
            int cost = cost(net);
            if (cost < 0) continue;
            long[] now = {cost, Long.bitCount(net), net};
            if (best == null || Arrays.compare(now, best) < 0) best = now;
        }
        return best == null ? NONE : best[2 * what];
    }

    int empties(int yard, int week, int v) {
        if (!yes(yard) || !in(week, 0, 2)) return -1000;
        if (!in(v, -50, 50)) return -1001;
        int was = empties[yard][week];
        empties[yard][week] = v;
        return was;
    }

    /** One empty after another by the cheapest way over yards and weeks, from a source to a drain. */
    int least() {
        int nodes = 3 * n + 2;
        int source = 3 * n;
        int drain = 3 * n + 1;
        int[][] room = new int[nodes][nodes];
        int[][] price = new int[nodes][nodes];
        int wanted = 0;
        for (int y = 0; y < n; y++) {
            for (int w = 0; w < 3; w++) {
                for (int z = 0; z < n; z++) {
                    if (z != y) open(room, price, 3 * y + w, 3 * z + w, 100000, miles[y][z]);
                }
                if (w < 2) open(room, price, 3 * y + w, 3 * y + w + 1, 100000, stayPrice);
                if (empties[y][w] > 0) open(room, price, source, 3 * y + w, empties[y][w], 0);
                if (empties[y][w] < 0) open(room, price, 3 * y + w, drain, -empties[y][w], 0);
                wanted += Math.max(0, -empties[y][w]);
            }
        }
        // Ways both ways between two yards share a cell, so each has its own flow apart.
        int[][] flow = new int[nodes][nodes];
        int paid = 0;
        for (int sent = 0; sent < wanted; sent++) {
            int more = sendOne(room, price, flow, source, drain);
            if (more == NONE) return NONE;
            paid += more;
        }
        return paid;
    }

    private static void open(int[][] room, int[][] price, int u, int v, int most, int each) {
        room[u][v] = most;
        price[u][v] = each;
    }

    private static int sendOne(int[][] room, int[][] price, int[][] flow, int source, int drain) {
        int nodes = room.length;
        int[] best = new int[nodes];
        int[] from = new int[nodes];
        boolean[] back = new boolean[nodes];
        Arrays.fill(best, 1 << 28);
        best[source] = 0;
        boolean changed = true;
        while (changed) {
            changed = false;
            for (int u = 0; u < nodes; u++) {
                for (int v = 0; v < nodes; v++) {
                    if (best[u] == 1 << 28) continue;
                    if (flow[u][v] < room[u][v] && best[u] + price[u][v] < best[v]) {
                        best[v] = best[u] + price[u][v];
                        from[v] = u;
                        back[v] = false;
                        changed = true;
                    }
                    if (flow[v][u] > 0 && best[u] - price[v][u] < best[v]) {
                        best[v] = best[u] - price[v][u];
                        from[v] = u;
                        back[v] = true;
                        changed = true;
                    }
                }
            }
        }
        if (best[drain] == 1 << 28) return NONE;
        for (int v = drain; v != source; v = from[v]) {
            if (back[v]) flow[v][from[v]]--;
            else flow[from[v]][v]++;
        }
        return best[drain];
    }

    int leg(int hours, int tenths) {
        if (!in(hours, 1, 99) || !in(tenths, 0, 9)) return OUTSIDE;
        if (legs.size() == 5) return FULL;
        legs.add(new int[] {hours, tenths});
        return legs.size();
    }

    int stay() {
        int had = legs.size();
        legs.clear();
        return had;
    }

    /** Over all ways to miss legs, five times in all at most: the chance, in parts of 10 to the 10, to be in time. */
    private BigInteger chance(int leg, int missed, int hours, int limit) {
        if (leg == legs.size()) {
            return hours <= limit ? BigInteger.TEN.pow(10 - missed - leg) : BigInteger.ZERO;
        }
        int[] l = legs.get(leg);
        BigInteger sum = BigInteger.ZERO;
        for (int more = 0; missed + more <= 5; more++) {
            BigInteger part = BigInteger.valueOf(l[1]).pow(more).multiply(BigInteger.valueOf(10 - l[1]));
            sum = sum.add(part.multiply(chance(leg + 1, missed + more, hours + l[0] + 24 * more, limit)));
        }
        return sum;
    }

    long share(int hours, int part) {
        if (!in(hours, 0, 999) || !in(part, 0, 1)) return OUTSIDE;
        BigInteger above = chance(0, 0, 0, hours);
        BigInteger below = BigInteger.TEN.pow(10);
        return (part == 0 ? above : below).divide(above.gcd(below)).longValueExact();
    }

    int promise(int p) {
        if (!in(p, 1, 999)) return OUTSIDE;
        BigInteger want = BigInteger.TEN.pow(10).multiply(BigInteger.valueOf(p));
        BigInteger thousand = BigInteger.valueOf(1000);
        int first = legs.stream().mapToInt(l -> l[0]).sum();
        for (int hours = Math.max(0, first - 1); hours <= first + 150; hours++) {
            if (chance(0, 0, 0, hours).multiply(thousand).compareTo(want) >= 0) return hours;
        }
        return NONE;
    }

    int change(int c, int what) {
        if (!yes(c)) return UNKNOWN;
        if (what != 0 && !in(what, 10, 29)) return OUTSIDE;
        List<Block> made = blocks.stream().filter(b -> b.to == c).toList();
        if (made.size() > 4 || changesDone == 20) return STATE;
        changesDone++;
        List<int[]> good = new ArrayList<>();
        choose(c, made, 0, new int[made.size()], good);
        for (Block b : made) b.to = c;
        if (good.isEmpty()) return NONE;
        int[] best = good.stream().min(Comparator.comparingInt(Plain::changedOf).thenComparing(Arrays::compare)).get();
        if (what == 0) return changedOf(best);
        if (what - 10 >= blocks.size()) return NONE;
        Block asked = blocks.get(what - 10);
        int at = made.indexOf(asked);
        return at < 0 || best[at] == -1 ? asked.to : best[at];
    }

    private static int changedOf(int[] choice) {
        return (int) Arrays.stream(choice).filter(y -> y >= 0).count();
    }

    /** A choice tells for each block made for c its new yard, or -1 if it stays. */
    private void choose(int c, List<Block> made, int i, int[] choice, List<int[]> good) {
        if (i == made.size()) {
            if (allCome(c)) good.add(choice.clone());
            return;
        }
        Block b = made.get(i);
        for (int y = -1; y < n; y++) {
            if (y == c || y == b.from) continue;
            choice[i] = y;
            b.to = y < 0 ? c : y;
            choose(c, made, i + 1, choice, good);
        }
    }

    private boolean allCome(int c) {
        for (int a = 0; a < n; a++) {
            for (int d = 0; d < n; d++) {
                if (a == c || d == c || loads[a][d] == 0) continue;
                List<Integer> way = wayOf(a, d);
                if (way == null || way.contains(c)) return false;
            }
        }
        return true;
    }

    int count(int what) {
        if (!in(what, 0, 10)) return OUTSIDE;
        int done = (int) wagons.stream().filter(w -> w.done).count();
        int running = (int) wagons.stream().filter(w -> w.running != null).count();
        return new int[] {n, blocks.size(), trains.size(), wagons.size(), clock, done, running, row.size(), legs.size(),
            page.length(), changesDone}[what];
    }

    long digest() {
        List<Integer> told = new ArrayList<>();
        told.add(n);
        for (int a = 0; a < n; a++) for (int b = a + 1; b < n; b++) told.add(miles[a][b]);
        for (int b = 0; b < blocks.size(); b++) for (int what = 0; what < 4; what++) told.add(about(b, what));
        for (int t = 0; t < trains.size(); t++) for (int what = 0; what < 4; what++) told.add(trainIs(t, what));
        for (int w = 0; w < wagons.size(); w++) for (int what = 0; what < 6; what++) told.add(wagonIs(w, what));
        told.add(clock);
        told.addAll(row);
        for (int[] from : loads) for (int load : from) told.add(load);
        for (int t : tracks) told.add(t);
        for (int[] yard : empties) for (int v : yard) told.add(v);
        for (int[] leg : legs) for (int v : leg) told.add(v);
        for (char letter : page.toCharArray()) told.add((int) letter);
        told.add(changesDone);
        long h = 229;
        for (int number : told) h = 31 * h + number;
        return h;
    }
}
