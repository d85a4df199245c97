import java.io.IOException;
import java.math.BigInteger;
import java.util.ArrayList;
import java.util.Arrays;
import java.util.Collections;
import java.util.Comparator;
import java.util.List;
import java.util.Random;

/**
 * The document's first sentence, part by part: what calls tell together. What is best, least or fewest is held
 * against all choices, tried through the face; no second program is asked.
 */
public final class TogetherTest {
    private static final int NONE = WagonWays.NONE;
    private static final Check check = new Check("TogetherTest");

    public static void main(String[] args) throws IOException {
        check.reads(args);
        blocksByTexts();
        wagonsTakeTheirWays();
        eachWagonInOnePlace();
        hourByHour();
        fewestCrews();
        rowsAreSorted();
        fewestSteps();
        bestNets();
        leastOfEmpties();
        promisesAndShares();
        sharesOfOneLeg();
        leastChange();
        check.end();
    }

    private static char letter(int yard) {
        return (char) ('A' + yard);
    }

    private static String text(int from, int to, int takes, int rank) {
        StringBuilder text = new StringBuilder().append(letter(from)).append('>').append(letter(to)).append(':');
        for (int d = 0; d < 8; d++) {
            if ((takes >> d & 1) != 0) {
                text.append(letter(d));
            }
        }
        return text.append('/').append(rank).toString();
    }

    private static int other(Random random, int yards, int than) {
        return (than + 1 + random.nextInt(yards - 1)) % yards;
    }

    /** Some yards, one at least, and not the one it is made at. */
    private static int someYards(Random random, int yards, int from) {
        int takes = random.nextInt(1 << yards) | 1 << other(random, yards, from);
        return takes & ~(1 << from);
    }

    // ---- blocks told by texts

    /** A text with its letters in any order tells the same block as one made of what about() tells. */
    private static void blocksByTexts() {
        check.says("yards, lines, blocks told by texts");
        Random random = new Random(1);
        for (int yards = 2; yards <= 8; yards++) {
            WagonWays x = Check.withBlocks(yards);
            WagonWays y = Check.withBlocks(yards);
            for (int b = 0; b < 20; b++) {
                Check.write(x, shuffledText(random, yards));
                check.due("block()", x.block(), b);
                Check.write(y, text(x.about(b, 0), x.about(b, 1), x.about(b, 2), x.about(b, 3)));
                check.due("block() told again", y.block(), b);
            }
            check.due("digest() of blocks told again", y.digest(), x.digest());
        }
    }

    private static String shuffledText(Random random, int yards) {
        int from = random.nextInt(yards);
        int takes = someYards(random, yards, from);
        List<String> letters = new ArrayList<>();
        for (int d = 0; d < yards; d++) {
            if ((takes >> d & 1) != 0) {
                letters.add("" + letter(d));
            }
        }
        Collections.shuffle(letters, random);
        String rank = random.nextBoolean() ? "/" + (1 + random.nextInt(9)) : "";
        return letter(from) + ">" + letter(other(random, yards, from)) + ":" + String.join("", letters) + rank;
    }

    // ---- ways and trains

    /** Twelve blocks: first a ring over all yards that takes all wagons, with a low rank or none at all. */
    private static WagonWays withRing(Random random, int yards) {
        List<Integer> ring = new ArrayList<>();
        for (int y = 0; y < yards; y++) {
            ring.add(y);
        }
        Collections.shuffle(ring, random);
        boolean low = random.nextInt(3) > 0;
        WagonWays x = Check.withBlocks(yards);
        for (int b = 0; b < 12; b++) {
            int from = b < yards ? ring.get(b) : random.nextInt(yards);
            int to = b < yards ? ring.get((b + 1) % yards) : other(random, yards, from);
            int takes = b < yards ? (1 << yards) - 1 & ~(1 << from) : someYards(random, yards, from);
            int rank = b < yards && low ? 1 : 1 + random.nextInt(9);
            Check.write(x, text(from, to, takes, rank));
            check.due("block()", x.block(), b);
        }
        return x;
    }

    /** A wagon comes over the yards that way() tells, in a train for each block; without a way it never comes. */
    private static void wagonsTakeTheirWays() {
        check.says("which way a wagon takes, sort by sort");
        check.says("THE WAY of a wagon from a to d: BLOCK by BLOCK, to the YARDS that they are made for, until it is at d.");
        check.says("THE WAY from a to d: what = 0 HANDLED, 1 its MILES,");
        int without = 0;
        for (int seed = 0; seed < 120; seed++) {
            Random random = new Random(seed);
            int yards = 3 + seed % 6;
            WagonWays x = withRing(random, yards);
            for (int t = 0; t < 12; t++) {
                x.train(t, NONE, 127, random.nextInt(24), 1 + random.nextInt(2), 1);
            }
            // Sorted in no time, a wagon might leave within the hour and not be seen.
            x.sorting(1 + random.nextInt(2));
            int a = random.nextInt(yards);
            int d = other(random, yards, a);
            x.wagon(a, d);
            int far = 1 + random.nextInt(99);
            x.miles(a, d, far);
            without += follow(x, a, d, far) ? 0 : 1;
        }
        check.isTrue("some wagons have no way: " + without, without > 5 && without < 60);
    }

    /** Any two yards lie 10 miles from each other, but for a and d. */
    private static boolean follow(WagonWays x, int a, int d, int far) {
        List<Integer> way = wayOf(x, a, d);
        List<Integer> seen = new ArrayList<>(List.of(a));
        int handled = x.way(a, d, 0);
        int miles = x.way(a, d, 1);
        for (int hour = 1; hour <= 200; hour++) {
            x.pass(1);
            int at = x.wagonIs(0, 0);
            if (at != NONE && at != seen.get(seen.size() - 1)) {
                seen.add(at);
            }
        }
        if (way.isEmpty()) {
            check.due("wagonIs(0, 4) without a way", x.wagonIs(0, 4), 0);
            check.due("way(a, d, 0) without a way", handled, NONE);
            check.due("way(a, d, 1) without a way", miles, NONE);
            return false;
        }
        seen.add(d);
        check.isTrue("a wagon that takes " + seen + " by the way " + way, seen.equals(way));
        check.due("wagonIs(0, 4)", x.wagonIs(0, 4), 1);
        check.due("way(a, d, 0)", handled, way.size() - 2);
        check.due("wagonIs(0, 3)", x.wagonIs(0, 3), handled + 1);
        check.due("way(a, d, 1)", miles, way.size() == 2 ? far : 10 * (way.size() - 1));
        return true;
    }

    private static List<Integer> wayOf(WagonWays x, int a, int d) {
        List<Integer> way = new ArrayList<>();
        for (int what = 10; what <= 18; what++) {
            int yard = x.way(a, d, what);
            if (yard == NONE) {
                return way;
            }
            way.add(yard);
        }
        return way;
    }

    /** Trains with few places, some with two blocks, and thirty wagons. */
    private static WagonWays withTraffic(int seed) {
        Random random = new Random(seed);
        int yards = 2 + seed % 7;
        WagonWays x = withRing(random, yards);
        for (int t = 0; t < 12; t++) {
            int y = random.nextInt(12);
            boolean alike = x.about(t, 0) == x.about(y, 0) && x.about(t, 1) == x.about(y, 1);
            int days = 1 + random.nextInt(127);
            int takes = 1 + random.nextInt(48);
            x.train(t, alike ? y : NONE, days, random.nextInt(24), takes, lengthOf(t));
        }
        for (int w = 0; w < 30; w++) {
            int at = random.nextInt(yards);
            x.wagon(at, other(random, yards, at));
        }
        int from = random.nextInt(10);
        x.close(random.nextInt(yards), from, from + random.nextInt(10));
        x.sorting(random.nextInt(13));
        return x;
    }

    private static int lengthOf(int train) {
        return 1 + train % 3;
    }

    private static void eachWagonInOnePlace() {
        check.says("trains by days with lengths, stepped hour by hour, each wagon in one place");
        for (int hours = 1; hours <= 200; hours++) {
            WagonWays x = withTraffic(hours % 25);
            x.pass(hours);
            lookAtWagons(x);
        }
    }

    private static void lookAtWagons(WagonWays x) {
        int[] standing = new int[8];
        int[] ready = new int[8];
        int[] inTrain = new int[12];
        int done = 0;
        int rides = 0;
        int clock = x.count(4);
        for (int w = 0; w < 30; w++) {
            int at = x.wagonIs(w, 0);
            int train = x.wagonIs(w, 1);
            int isDone = x.wagonIs(w, 4);
            int since = x.wagonIs(w, 2);
            check.due("places of a wagon", (at >= 0 ? 1 : 0) + (train >= 0 ? 1 : 0) + isDone, 1);
            if (at >= 0) {
                standing[at]++;
                ready[at] += since <= clock ? 1 : 0;
            } else if (train >= 0) {
                inTrain[train]++;
                check.isTrue("comes in at the clock or later", since >= clock);
            } else {
                check.isTrue("came in ahead of the clock", since < clock);
            }
            done += isDone;
            rides += x.wagonIs(w, 3);
        }
        for (int y = 0; y < x.count(0); y++) {
            check.due("yard(y, 0)", x.yard(y, 0), standing[y]);
            check.due("yard(y, 1)", x.yard(y, 1), ready[y]);
        }
        check.due("count(5)", x.count(5), done);
        check.due("count(6)", x.count(6), Arrays.stream(inTrain).sum());
        int took = 0;
        for (int t = 0; t < 12; t++) {
            took += x.trainIs(t, 1);
            check.isTrue("no longer than LENGTH", inTrain[t] <= lengthOf(t) * x.trainIs(t, 3));
        }
        check.due("wagons that trains took", took, rides);
    }

    /** Hours that go by at once and one by one are the same. */
    private static void hourByHour() {
        for (int seed = 60; seed < 100; seed++) {
            WagonWays x = withTraffic(seed);
            WagonWays y = withTraffic(seed);
            check.due("pass(200)", x.pass(200), 200);
            check.due("pass(100)", x.pass(100), 300);
            for (int hour = 1; hour <= 300; hour++) {
                check.due("pass(1)", y.pass(1), hour);
            }
            check.due("digest() hour by hour", y.digest(), x.digest());
        }
    }

    // ---- crews

    private static void fewestCrews() {
        check.says("crews and the fewest that do");
        check.says("One CREW may do one DUTY behind another, if this begins at the YARD where that ended,");
        int saved = 0;
        for (int seed = 0; seed < 400; seed++) {
            Random random = new Random(seed);
            WagonWays x = Check.withBlocks(3, "A>B:B", "A>C:C", "B>A:A", "B>C:C", "C>A:A", "C>B:B");
            List<int[]> duties = new ArrayList<>();
            for (int t = 0; t < 4; t++) {
                int b = random.nextInt(6);
                int days = 1 << random.nextInt(7) | 1 << random.nextInt(7);
                int hour = random.nextInt(24);
                int takes = 1 + random.nextInt(random.nextBoolean() ? 6 : 48);
                x.train(b, NONE, days, hour, takes, 1);
                for (int day = 0; day < 7; day++) {
                    if ((days >> day & 1) != 0) {
                        int begins = 24 * day + hour;
                        duties.add(new int[] {begins, begins + takes, x.about(b, 0), x.about(b, 1)});
                    }
                }
            }
            int rest = random.nextInt(49);
            x.rest(rest);
            duties.sort(Comparator.comparingInt(duty -> duty[0]));
            int fewest = crewsFrom(duties, 0, new ArrayList<>(), rest);
            check.due("crews(0)", x.crews(0), duties.size());
            check.due("crews(1)", x.crews(1), fewest);
            check.due("crews(2)", x.crews(2), duties.stream().mapToInt(duty -> duty[1] - duty[0]).sum());
            saved += duties.size() - fewest;
        }
        check.isTrue("crews do more than one duty: " + saved, saved > 400);
    }

    /** Each duty by any crew whose last one lets it, or by a new one: the fewest crews over all choices. */
    private static int crewsFrom(List<int[]> duties, int next, List<int[]> last, int rest) {
        if (next == duties.size()) {
            return last.size();
        }
        int[] duty = duties.get(next);
        last.add(duty);
        int fewest = crewsFrom(duties, next + 1, last, rest);
        last.remove(last.size() - 1);
        for (int crew = 0; crew < last.size(); crew++) {
            int[] ahead = last.get(crew);
            if (ahead[3] == duty[2] && duty[0] >= ahead[1] + rest) {
                last.set(crew, duty);
                fewest = Math.min(fewest, crewsFrom(duties, next + 1, last, rest));
                last.set(crew, ahead);
            }
        }
        return fewest;
    }

    // ---- rows

    private static void rowsAreSorted() {
        check.says("a row of wagons sorted by fewest steps over few tracks");
        check.says("In STEP i (from 0) the wagons, from the front of the ROW, roll on TRACKS");
        for (int seed = 0; seed < 200; seed++) {
            Random random = new Random(seed);
            WagonWays x = new WagonWays();
            List<Integer> order = new ArrayList<>();
            int[] marks = new int[1 + seed % 16];
            for (int i = 0; i < marks.length; i++) {
                marks[i] = random.nextInt(1 + seed / 16 % 16);
                x.roll(marks[i]);
                order.add(i);
            }
            order.sort(Comparator.comparingInt(i -> marks[i]));
            for (int tracks = 2; tracks <= 8; tracks++) {
                int steps = x.steps(tracks);
                for (int i = 0; i < marks.length; i++) {
                    check.due("stands(" + tracks + ", " + steps + ", " + i + ")", x.stands(tracks, steps, i), order.get(i));
                }
            }
        }
    }

    /** With one step fewer no choice of tracks sorts the row. */
    private static void fewestSteps() {
        for (int many = 2; many <= 5; many++) {
            int rows = 1;
            for (int i = 0; i < many; i++) {
                rows *= many;
            }
            for (int code = 0; code < rows; code++) {
                int[] marks = new int[many];
                WagonWays x = new WagonWays();
                for (int i = 0, left = code; i < many; i++, left /= many) {
                    marks[i] = left % many;
                    x.roll(marks[i]);
                }
                for (int tracks = 2; tracks <= 3; tracks++) {
                    int steps = x.steps(tracks);
                    check.isTrue("fewer steps do not do", steps == 0 || !sorts(marks, tracks, steps - 1));
                }
            }
        }
    }

    /** Whether some choice of tracks for each wagon and step sorts by marks, of like marks as they stood. */
    private static boolean sorts(int[] marks, int tracks, int steps) {
        int ways = 1;
        for (int s = 0; s < steps; s++) {
            ways *= tracks;
        }
        int choices = 1;
        for (int i = 0; i < marks.length; i++) {
            choices *= ways;
        }
        for (int choice = 0; choice < choices; choice++) {
            int[] tracksOf = new int[marks.length];
            for (int i = 0, left = choice; i < marks.length; i++, left /= ways) {
                tracksOf[i] = left % ways;
            }
            if (isSorted(marks, rolled(tracksOf, tracks, steps))) {
                return true;
            }
        }
        return false;
    }

    private static List<Integer> rolled(int[] tracksOf, int tracks, int steps) {
        List<Integer> row = new ArrayList<>();
        for (int i = 0; i < tracksOf.length; i++) {
            row.add(i);
        }
        for (int s = 0, unit = 1; s < steps; s++, unit *= tracks) {
            List<Integer> next = new ArrayList<>();
            for (int track = 0; track < tracks; track++) {
                for (int wagon : row) {
                    if (tracksOf[wagon] / unit % tracks == track) {
                        next.add(wagon);
                    }
                }
            }
            row = next;
        }
        return row;
    }

    private static boolean isSorted(int[] marks, List<Integer> row) {
        for (int i = 1; i < row.size(); i++) {
            int ahead = row.get(i - 1);
            int wagon = row.get(i);
            if (marks[ahead] > marks[wagon] || marks[ahead] == marks[wagon] && ahead > wagon) {
                return false;
            }
        }
        return true;
    }

    // ---- nets

    private static WagonWays withLoads(int yards, int seed) {
        Random random = new Random(seed);
        WagonWays x = new WagonWays();
        x.land(yards);
        for (int a = 0; a < yards; a++) {
            for (int b = 0; b < yards; b++) {
                if (a < b) {
                    x.miles(a, b, 1 + random.nextInt(seed % 2 == 0 ? 99 : 4));
                }
                if (a != b && random.nextInt(3) > 0) {
                    x.load(a, b, random.nextInt(seed % 2 == 0 ? 100 : 3));
                }
            }
            x.tracks(a, random.nextInt(5) == 0 ? random.nextInt(8) : 1 + random.nextInt(2));
        }
        x.price(0, random.nextInt(seed % 2 == 0 ? 100 : 3));
        return x;
    }

    private static void bestNets() {
        check.says("which blocks to make, proven best for few yards, beside a bound");
        check.says("A NET is a set of BLOCKS to make, each YARD for others,");
        check.says("THE BEST NET: what = 0 its COST, 1 the NET as bits, 2 THE BOUND;");
        int without = 0;
        for (int seed = 0; seed < 90; seed++) {
            int yards = seed < 20 ? 2 : seed < 70 ? 3 : 4;
            WagonWays x = withLoads(yards, seed);
            long[] best = bestByTrying(yards, seed);
            check.due("net(0)", x.net(0), best[0]);
            check.due("net(1)", x.net(1), best[2]);
            long bound = x.net(2);
            if (best[0] == NONE) {
                without++;
            } else {
                check.isTrue("the bound is not above the best", bound <= best[0]);
                check.due("cost(net(1))", x.cost(best[2]), best[0]);
            }
            for (int y = 0; y < yards; y++) {
                x.tracks(y, 7);
            }
            check.due("net(0) with all tracks", x.net(0), bound);
            check.due("net(2) with all tracks", x.net(2), bound);
        }
        check.isTrue("some loads have no net: " + without, without > 3 && without < 60);
    }

    /** Cost, how many blocks, and the net, of the best of all that cost() takes; 400 nets for one object. */
    private static long[] bestByTrying(int yards, int seed) {
        long[] best = {NONE, NONE, NONE};
        WagonWays x = withLoads(yards, seed);
        int cells = yards * (yards - 1);
        for (int set = 0; set < 1 << cells; set++) {
            if (set % 400 == 399) {
                x = withLoads(yards, seed);
            }
            long net = 0;
            for (int i = 0; i < cells; i++) {
                int a = i / (yards - 1);
                int b = (a + 1 + i % (yards - 1)) % yards;
                net |= (long) (set >> i & 1) << 8 * a + b;
            }
            long[] now = {x.cost(net), Long.bitCount(net), net};
            if (now[0] >= 0 && (best[0] == NONE || Arrays.compare(now, best) < 0)) {
                best = now;
            }
        }
        return best;
    }

    // ---- empties

    private static void leastOfEmpties() {
        check.says("empties sent for least by weeks");
        check.says("THE LEAST MILES; NONE.");
        int without = 0;
        for (int seed = 0; seed < 200; seed++) {
            Random random = new Random(seed);
            int yards = 2 + seed % 7;
            WagonWays x = Check.withBlocks(yards);
            for (int i = 0; i < 10; i++) {
                int a = random.nextInt(yards);
                x.miles(a, other(random, yards, a), 1 + random.nextInt(99));
            }
            int stay = random.nextInt(seed % 3 == 0 ? 100 : 10);
            x.price(1, stay);
            List<int[]> over = units(x, random, yards, 7, 1);
            List<int[]> wanted = units(x, random, yards, 5, -1);
            int least = leastFrom(farOf(x), over, wanted, 0, stay);
            check.due("least()", x.least(), least == Integer.MAX_VALUE ? NONE : least);
            without += least == Integer.MAX_VALUE ? 1 : 0;
        }
        check.isTrue("some cannot be sent: " + without, without > 20 && without < 150);
    }

    /** Sets a few places one by one more over or wanted: each one's yard and week. */
    private static List<int[]> units(WagonWays x, Random random, int yards, int most, int sign) {
        List<int[]> units = new ArrayList<>();
        for (int i = 0; i < most; i++) {
            int yard = random.nextInt(yards);
            int week = random.nextInt(3);
            int was = x.empties(yard, week, 0);
            if (was * sign < 0) {
                x.empties(yard, week, was);
            } else {
                x.empties(yard, week, was + sign);
                units.add(new int[] {yard, week});
            }
        }
        return units;
    }

    private static int[][] farOf(WagonWays x) {
        int yards = x.count(0);
        int[][] far = new int[yards][yards];
        for (int a = 0; a < yards; a++) {
            for (int b = 0; b < yards; b++) {
                far[a][b] = x.far(a, b);
            }
        }
        return far;
    }

    /** The least paid, each that is wanted coming from any one that is over and not sent yet. */
    private static int leastFrom(int[][] far, List<int[]> over, List<int[]> wanted, int next, int stay) {
        if (next == wanted.size()) {
            return 0;
        }
        int[] goal = wanted.get(next);
        int least = Integer.MAX_VALUE;
        for (int i = 0; i < over.size(); i++) {
            int[] unit = over.get(i);
            if (unit == null || unit[1] > goal[1]) {
                continue;
            }
            over.set(i, null);
            int others = leastFrom(far, over, wanted, next + 1, stay);
            over.set(i, unit);
            if (others != Integer.MAX_VALUE) {
                least = Math.min(least, others + far[unit[0]][goal[0]] + stay * (goal[1] - unit[1]));
            }
        }
        return least;
    }

    // ---- promises

    /** promise() is the first hour at which share() is enough, and share() is in lowest terms and never falls. */
    private static void promisesAndShares() {
        check.says("promises by exact shares");
        for (int seed = 0; seed < 200; seed++) {
            Random random = new Random(seed);
            WagonWays x = new WagonWays();
            for (int i = 0; i < seed % 6; i++) {
                x.leg(1 + random.nextInt(99), random.nextInt(seed % 4 == 0 ? 10 : 4));
            }
            for (int p : new int[] {1, 2, 250, 500, 750, 900, 990, 998, 999, 1 + random.nextInt(999)}) {
                int hours = x.promise(p);
                check.isTrue("promise(" + p + ") is kept", hours == NONE || isEnough(x, hours, p));
                int earlier = hours == NONE ? 999 : hours - 1;
                check.isTrue("promise(" + p + ") is the least", earlier < 0 || !isEnough(x, earlier, p));
            }
            long above = 0;
            long below = 1;
            for (int hours = random.nextInt(20); hours <= 999; hours += 11) {
                long nextAbove = x.share(hours, 0);
                long nextBelow = x.share(hours, 1);
                check.due("common divisor", gcd(nextAbove, nextBelow), 1);
                check.isTrue("never above one", nextAbove <= nextBelow);
                check.isTrue("never falls", product(nextAbove, below).compareTo(product(above, nextBelow)) >= 0);
                above = nextAbove;
                below = nextBelow;
            }
        }
    }

    private static BigInteger product(long a, long b) {
        return BigInteger.valueOf(a).multiply(BigInteger.valueOf(b));
    }

    private static long gcd(long a, long b) {
        return b == 0 ? a : gcd(b, a % b);
    }

    private static boolean isEnough(WagonWays x, int hours, int p) {
        return x.share(hours, 0) * 1000 >= x.share(hours, 1) * p;
    }

    /** Of one leg the share by m misses is all but the chance to miss m + 1 times; five misses at most count. */
    private static void sharesOfOneLeg() {
        for (int tenths = 0; tenths <= 9; tenths++) {
            WagonWays x = new WagonWays();
            x.leg(7, tenths);
            long missed = 1;
            long whole = 1;
            for (int m = 0; m <= 7; m++) {
                missed *= m <= 5 ? tenths : 1;
                whole *= m <= 5 ? 10 : 1;
                long common = gcd(whole - missed, whole);
                for (int hours : new int[] {7 + 24 * m, 30 + 24 * m}) {
                    check.due("share(" + hours + ", 0)", x.share(hours, 0), (whole - missed) / common);
                    check.due("share(" + hours + ", 1)", x.share(hours, 1), whole / common);
                }
            }
        }
    }

    // ---- closed yards

    private static void leastChange() {
        check.says("a closed yard, least changed so that all still comes");
        check.says("A CLOSED YARD c: CHANGED BLOCKS: one that is made for c is made for another YARD instead");
        check.says("LEAST CHANGE: of all choices of BLOCKS made for c to be CHANGED, and for which YARDS,");
        check.says("LEAST CHANGE, if YARD c is CLOSED: what = 0 how many BLOCKS are CHANGED,");
        int[] times = new int[6];
        for (int seed = 0; seed < 300; seed++) {
            Random random = new Random(seed);
            int yards = 3 + seed % 3;
            int c = random.nextInt(yards);
            int[][] blocks = blocksWithSomeFor(random, yards, c);
            int[][] loads = new int[1 + random.nextInt(4)][];
            for (int i = 0; i < loads.length; i++) {
                int a = random.nextInt(yards);
                loads[i] = new int[] {a, other(random, yards, a)};
            }
            WagonWays x = made(yards, blocks);
            for (int[] load : loads) {
                x.load(load[0], load[1], 1 + random.nextInt(99));
            }
            int[] best = leastOfAll(yards, blocks, loads, c, 0);
            int changed = best == null ? NONE : changedIn(best, blocks);
            check.due("change(" + c + ", 0)", x.change(c, 0), changed);
            for (int b = 0; b < blocks.length; b++) {
                check.due("change(" + c + ", " + (10 + b) + ")", x.change(c, 10 + b), best == null ? NONE : best[b]);
            }
            times[changed + 1]++;
        }
        check.isTrue("none, 0, 1 and 2 are changed at times: " + Arrays.toString(times),
            times[0] > 5 && times[1] > 5 && times[2] > 5 && times[3] > 2);
    }

    /** Six blocks, three at most for c, each told by where it is made, for which yard, whom it takes, rank. */
    private static int[][] blocksWithSomeFor(Random random, int yards, int c) {
        int[][] blocks = new int[6][];
        int left = 3;
        for (int b = 0; b < blocks.length; b++) {
            int from = other(random, yards, c);
            int to = other(random, yards, from);
            if (to == c && left == 0) {
                from = c;
                to = other(random, yards, c);
            }
            left -= to == c ? 1 : 0;
            int all = (1 << yards) - 1 & ~(1 << from);
            int takes = random.nextInt(3) > 0 ? all : someYards(random, yards, from);
            blocks[b] = new int[] {from, to, takes, 4 + random.nextInt(2)};
        }
        return blocks;
    }

    private static WagonWays made(int yards, int[][] blocks) {
        WagonWays x = Check.withBlocks(yards);
        for (int[] b : blocks) {
            Check.write(x, text(b[0], b[1], b[2], b[3]));
            check.isTrue("block()", x.block() >= 0);
        }
        return x;
    }

    /** For which yards the blocks are made by the best choice for those from one on; null if none does. */
    private static int[] leastOfAll(int yards, int[][] blocks, int[][] loads, int c, int from) {
        int next = from;
        while (next < blocks.length && blocks[next][1] != c) {
            next++;
        }
        if (next == blocks.length) {
            int[] targets = Arrays.stream(blocks).mapToInt(b -> b[1]).toArray();
            return allCome(made(yards, blocks), loads, c) ? targets : null;
        }
        int[] best = leastOfAll(yards, blocks, loads, c, next + 1);
        for (int yard = 0; yard < yards; yard++) {
            if (yard == c || yard == blocks[next][0]) {
                continue;
            }
            blocks[next][1] = yard;
            int[] now = leastOfAll(yards, blocks, loads, c, next + 1);
            blocks[next][1] = c;
            // Of like ones the earlier stays: it leaves this block, or makes it for a lesser yard.
            if (now != null && (best == null || changedIn(now, blocks) < changedIn(best, blocks))) {
                best = now;
            }
        }
        return best;
    }

    private static int changedIn(int[] targets, int[][] blocks) {
        int changed = 0;
        for (int b = 0; b < blocks.length; b++) {
            changed += targets[b] != blocks[b][1] ? 1 : 0;
        }
        return changed;
    }

    private static boolean allCome(WagonWays x, int[][] loads, int c) {
        for (int[] load : loads) {
            if (load[0] == c || load[1] == c) {
                continue;
            }
            List<Integer> way = wayOf(x, load[0], load[1]);
            if (way.isEmpty() || way.contains(c)) {
                return false;
            }
        }
        return true;
    }
}
