import java.util.Random;

/**
 * Long runs of calls, answer by answer, against Plain. The seeds are fixed, so that each run is the same.
 * What to ask is drawn by what Plain tells, so that an object is used for fewer than 512 calls.
 */
public final class PlainTest {
    private static final int CALLS = 40;
    private static final Check check = new Check("PlainTest");

    private final Random random;
    private final WagonWays x = new WagonWays();
    private final Plain plain = new Plain();
    private final String name;
    /** How likely each call is in this run. */
    private final int[] weight = new int[CALLS];
    private int total = 0;

    private PlainTest(long seed) {
        random = new Random(seed);
        name = "run " + seed;
        for (int call = 0; call < CALLS; call++) {
            weight[call] = random.nextInt(3) == 0 ? 8 : 1 + random.nextInt(2);
        }
        weight[0] = random.nextInt(8) == 0 ? 1 : 0;
        weight[30] = Math.min(weight[30], 1);
        weight[37] = 1;
        for (int w : weight) {
            total += w;
        }
    }

    public static void main(String[] args) {
        int runs = args.length > 1 ? Integer.parseInt(args[1]) : 300;
        for (long seed = 1; seed <= runs; seed++) {
            new PlainTest(seed).run();
            new PlainTest(seed).runTraffic();
            new PlainTest(seed).runNets();
            new PlainTest(seed).runEmpties();
            new PlainTest(seed).runClosings();
        }
        check.end();
    }

    private void run() {
        int yards = 2 + random.nextInt(7);
        same("land(" + yards + ")", x.land(yards), plain.land(yards));
        if (random.nextInt(4) > 0) {
            for (int i = 0; i < 4 + random.nextInt(12); i++) {
                writeBlock();
            }
        }
        for (int i = 0; i < 300; i++) {
            int pick = random.nextInt(total);
            int call = 0;
            while (pick >= weight[call]) {
                pick -= weight[call];
                call++;
            }
            if (call < 11) {
                callLand(call);
            } else if (call < 21) {
                callTrains(call);
            } else if (call < 26) {
                callSorting(call);
            } else if (call < 33) {
                callNets(call);
            } else {
                callPromises(call);
            }
            if (i % 8 == 0) {
                same("digest()", x.digest(), plain.digest());
            }
        }
        same("digest()", x.digest(), plain.digest());
    }

    private void begin(int least, int most) {
        int yards = least + random.nextInt(most - least + 1);
        same("land(" + yards + ")", x.land(yards), plain.land(yards));
    }

    private void writeBlocks(int most) {
        for (int i = 0; i < most; i++) {
            writeBlock();
        }
        same("blank()", x.blank(), plain.blank());
    }

    /** Many trains and wagons, hour by hour. */
    private void runTraffic() {
        begin(2, 5);
        writeBlocks(6 + random.nextInt(10));
        for (int i = 0; i < 14; i++) {
            callTrains(11);
        }
        for (int i = 0; i < 60; i++) {
            callTrains(12);
            callTrains(random.nextInt(6) == 0 ? 13 : 16);
            int hours = 1 + random.nextInt(random.nextBoolean() ? 3 : 40);
            same("pass(" + hours + ")", x.pass(hours), plain.pass(hours));
            same("digest()", x.digest(), plain.digest());
            callTrains(random.nextInt(10) == 0 ? 14 : 18);
        }
        callTrains(19);
        for (int what = 0; what < 3; what++) {
            same("crews(" + what + ")", x.crews(what), plain.crews(what));
        }
    }

    /** Few kinds of miles and loads, so that many nets are of like cost. */
    private void runNets() {
        begin(2, 4);
        int n = plain.count(0);
        int kinds = 1 + random.nextInt(3);
        int handling = 5 * random.nextInt(5);
        same("price(0, " + handling + ")", x.price(0, handling), plain.price(0, handling));
        for (int a = 0; a < n; a++) {
            int tracks = random.nextInt(4);
            same("tracks(" + a + ", " + tracks + ")", x.tracks(a, tracks), plain.tracks(a, tracks));
            for (int d = 0; d < n; d++) {
                int miles = 10 + 10 * random.nextInt(kinds);
                same("miles(" + a + ", " + d + ", " + miles + ")", x.miles(a, d, miles), plain.miles(a, d, miles));
                int load = random.nextInt(3) == 0 ? 0 : random.nextInt(1 + kinds);
                same("load(" + a + ", " + d + ", " + load + ")", x.load(a, d, load), plain.load(a, d, load));
            }
        }
        for (int what = 0; what < 3; what++) {
            same("net(" + what + ")", x.net(what), plain.net(what));
        }
    }

    private void runEmpties() {
        begin(2, 8);
        int n = plain.count(0);
        int most = 1 + random.nextInt(30);
        int stay = random.nextInt(100);
        same("price(1, " + stay + ")", x.price(1, stay), plain.price(1, stay));
        for (int y = 0; y < n; y++) {
            for (int z = 0; z < n; z++) {
                int miles = 1 + random.nextInt(99);
                same("miles(" + y + ", " + z + ", " + miles + ")", x.miles(y, z, miles), plain.miles(y, z, miles));
            }
            for (int w = 0; w < 3; w++) {
                int v = random.nextBoolean() ? random.nextInt(most + 1) : -random.nextInt(1 + most * (w + 1) / 3);
                same("empties(" + y + ", " + w + ", " + v + ")", x.empties(y, w, v), plain.empties(y, w, v));
            }
        }
        same("least()", x.least(), plain.least());
    }

    private void runClosings() {
        begin(3, 7);
        int n = plain.count(0);
        writeBlocks(5 + random.nextInt(14));
        for (int i = 0; i < 1 + random.nextInt(3); i++) {
            callNets(26);
            for (int c = 0; c < n && plain.count(10) < 20; c++) {
                same("change(" + c + ", 0)", x.change(c, 0), plain.change(c, 0));
            }
        }
        int c = random.nextInt(n);
        for (int b = 0; b <= plain.count(1) && b < 20; b++) {
            same("change(" + c + ", " + (10 + b) + ")", x.change(c, 10 + b), plain.change(c, 10 + b));
        }
    }

    private void same(String call, long got, long want) {
        check.due(name + " " + call, got, want);
    }

    /** Mostly within the bounds, at times just beside them or far off. */
    private int from(int low, int high) {
        int kind = random.nextInt(60);
        if (kind == 0) {
            return low - 1;
        }
        if (kind == 1) {
            return high + 1;
        }
        if (kind == 2) {
            return random.nextInt();
        }
        if (kind == 3) {
            return random.nextBoolean() ? Integer.MIN_VALUE : Integer.MAX_VALUE;
        }
        if (kind < 8) {
            return random.nextBoolean() ? low : high;
        }
        return high < low ? low : low + random.nextInt(high - low + 1);
    }

    private int yard() {
        return from(0, plain.count(0) - 1);
    }

    private String text() {
        int n = plain.count(0);
        StringBuilder text = new StringBuilder();
        int a = random.nextInt(n);
        int b = (a + 1 + random.nextInt(n - 1)) % n;
        text.append((char) ('A' + a)).append('>').append((char) ('A' + b)).append(':');
        int first = random.nextInt(n);
        for (int i = 0; i < n; i++) {
            int d = (first + i * (n == 8 || n == 4 ? 3 : 1)) % n;
            if (d != a && text.indexOf(String.valueOf((char) ('A' + d)), 4) < 0 && random.nextInt(3) > 0) {
                text.append((char) ('A' + d));
            }
        }
        if (random.nextInt(3) == 0) {
            text.append('/').append((char) ('1' + random.nextInt(9)));
        }
        if (random.nextInt(10) == 0) {
            text.setCharAt(random.nextInt(text.length()), "ABCDEFGHI>:/0195@ ".charAt(random.nextInt(18)));
        }
        if (random.nextInt(20) == 0) {
            text.setLength(random.nextInt(text.length() + 1));
        }
        return text.toString();
    }

    private void writeBlock() {
        String text = text();
        for (int i = 0; i < text.length(); i += 8) {
            writeWord(Check.word(text.substring(i, Math.min(text.length(), i + 8))));
        }
        same("good() of " + text, x.good(), plain.good());
        same("block() of " + text, x.block(), plain.block());
        if (plain.count(9) > 0 && random.nextInt(3) > 0) {
            same("blank()", x.blank(), plain.blank());
        }
    }

    private void writeWord(long w) {
        same("letters(" + w + ")", x.letters(w), plain.letters(w));
    }

    private long anyWord() {
        String text = text();
        long w = Check.word(text.substring(0, Math.min(4, text.length())));
        int kind = random.nextInt(6);
        return kind == 0 ? random.nextLong() : kind == 1 ? w | (long) random.nextInt(256) << 8 * random.nextInt(8) : w;
    }

    private void callLand(int call) {
        int a = yard();
        int b = yard();
        switch (call) {
            case 0: { int v = from(2, 8); same("land(" + v + ")", x.land(v), plain.land(v)); break; }
            case 1: { int v = from(1, 99); same("miles(" + a + ", " + b + ", " + v + ")", x.miles(a, b, v), plain.miles(a, b, v)); break; }
            case 2: same("far(" + a + ", " + b + ")", x.far(a, b), plain.far(a, b)); break;
            case 3: writeWord(anyWord()); break;
            case 4: same("blank()", x.blank(), plain.blank()); break;
            case 5: same("good()", x.good(), plain.good()); break;
            case 6: writeBlock(); break;
            case 7: {
                int k = from(0, plain.count(1) - 1);
                int what = from(0, 3);
                same("about(" + k + ", " + what + ")", x.about(k, what), plain.about(k, what));
                break;
            }
            case 8: same("goes(" + a + ", " + b + ")", x.goes(a, b), plain.goes(a, b)); break;
            case 9: {
                int what = random.nextBoolean() ? from(0, 1) : from(10, 18);
                same("way(" + a + ", " + b + ", " + what + ")", x.way(a, b, what), plain.way(a, b, what));
                break;
            }
            default: same("lost()", x.lost(), plain.lost());
        }
    }

    private int alike(int block) {
        for (int i = 0; i < 20 && block >= 0 && block < plain.count(1); i++) {
            int other = random.nextInt(plain.count(1));
            if (plain.about(other, 0) == plain.about(block, 0) && plain.about(other, 1) == plain.about(block, 1)) {
                return other;
            }
        }
        return from(-1, plain.count(1) - 1);
    }

    private void callTrains(int call) {
        int y = yard();
        switch (call) {
            case 11: {
                int one = from(0, plain.count(1) - 1);
                int two = random.nextInt(3) == 0 ? alike(one) : -1;
                int days = random.nextInt(4) == 0 ? 127 : from(1, 127);
                int hour = from(0, 23);
                int takes = from(1, 48);
                int length = random.nextBoolean() ? from(1, 2) : from(1, 12);
                same("train(" + one + ", " + two + ", " + days + ", " + hour + ", " + takes + ", " + length + ")",
                    x.train(one, two, days, hour, takes, length), plain.train(one, two, days, hour, takes, length));
                break;
            }
            case 12: { int g = yard(); same("wagon(" + y + ", " + g + ")", x.wagon(y, g), plain.wagon(y, g)); break; }
            case 13: { int s = from(0, 12); same("sorting(" + s + ")", x.sorting(s), plain.sorting(s)); break; }
            case 14: {
                int first = random.nextInt(4) == 0 ? -1 : from(0, random.nextBoolean() ? 20 : 99);
                int last = first == -1 && random.nextInt(4) > 0 ? -1 : from(Math.max(0, Math.min(first, 99)), 99);
                same("close(" + y + ", " + first + ", " + last + ")", x.close(y, first, last), plain.close(y, first, last));
                break;
            }
            case 15: { int h = random.nextBoolean() ? from(1, 30) : from(1, 200); same("pass(" + h + ")", x.pass(h), plain.pass(h)); break; }
            case 16: {
                int w = from(0, plain.count(3) - 1);
                int what = from(0, 5);
                same("wagonIs(" + w + ", " + what + ")", x.wagonIs(w, what), plain.wagonIs(w, what));
                break;
            }
            case 17: {
                int t = from(0, plain.count(2) - 1);
                int what = from(0, 3);
                same("trainIs(" + t + ", " + what + ")", x.trainIs(t, what), plain.trainIs(t, what));
                break;
            }
            case 18: { int what = from(0, 1); same("yard(" + y + ", " + what + ")", x.yard(y, what), plain.yard(y, what)); break; }
            case 19: { int r = from(0, 48); same("rest(" + r + ")", x.rest(r), plain.rest(r)); break; }
            default: { int what = from(0, 2); same("crews(" + what + ")", x.crews(what), plain.crews(what)); }
        }
    }

    private void callSorting(int call) {
        int i = from(0, plain.count(7) - 1);
        int tracks = from(2, 8);
        switch (call) {
            case 21: if (random.nextInt(6) == 0) same("drive()", x.drive(), plain.drive()); break;
            case 22: { int mark = from(0, 15); same("roll(" + mark + ")", x.roll(mark), plain.roll(mark)); break; }
            case 23: same("number(" + i + ")", x.number(i), plain.number(i)); break;
            case 24: same("steps(" + tracks + ")", x.steps(tracks), plain.steps(tracks)); break;
            default: { int k = from(0, 3); same("stands(" + tracks + ", " + k + ", " + i + ")", x.stands(tracks, k, i), plain.stands(tracks, k, i)); }
        }
    }

    private long anyNet() {
        long net = 0;
        int n = plain.count(0);
        for (int a = 0; a < n; a++) {
            for (int b = 0; b < n; b++) {
                net |= a != b && random.nextInt(n) < 2 ? 1L << 8 * a + b : 0;
            }
        }
        int kind = random.nextInt(20);
        return kind == 0 ? random.nextLong() : kind == 1 ? net | 1L << random.nextInt(64) : net;
    }

    private void callNets(int call) {
        int a = yard();
        switch (call) {
            case 26: {
                int d = yard();
                int v = random.nextInt(4) == 0 ? 0 : from(0, 99);
                same("load(" + a + ", " + d + ", " + v + ")", x.load(a, d, v), plain.load(a, d, v));
                break;
            }
            case 27: { int v = random.nextInt(3) == 0 ? from(0, 1) : from(0, 7); same("tracks(" + a + ", " + v + ")", x.tracks(a, v), plain.tracks(a, v)); break; }
            case 28: { int w = from(0, 1); int v = from(0, 99); same("price(" + w + ", " + v + ")", x.price(w, v), plain.price(w, v)); break; }
            case 29: { long net = anyNet(); same("cost(" + net + ")", x.cost(net), plain.cost(net)); break; }
            case 30: { int what = from(0, 2); same("net(" + what + ")", x.net(what), plain.net(what)); break; }
            case 31: {
                int week = from(0, 2);
                int v = random.nextInt(3) == 0 ? from(-50, 50) : from(-9, 30);
                same("empties(" + a + ", " + week + ", " + v + ")", x.empties(a, week, v), plain.empties(a, week, v));
                break;
            }
            default: same("least()", x.least(), plain.least());
        }
    }

    private void callPromises(int call) {
        switch (call) {
            case 33: { int h = from(1, 99); int t = from(0, 9); same("leg(" + h + ", " + t + ")", x.leg(h, t), plain.leg(h, t)); break; }
            case 34: if (random.nextInt(3) == 0) same("stay()", x.stay(), plain.stay()); break;
            case 35: { int h = random.nextBoolean() ? from(0, 400) : from(0, 999); int p = from(0, 1); same("share(" + h + ", " + p + ")", x.share(h, p), plain.share(h, p)); break; }
            case 36: { int p = from(1, 999); same("promise(" + p + ")", x.promise(p), plain.promise(p)); break; }
            case 37: {
                int c = yard();
                int what = random.nextInt(3) > 0 ? from(10, 9 + Math.max(1, plain.count(1))) : from(0, 0);
                same("change(" + c + ", " + what + ")", x.change(c, what), plain.change(c, what));
                break;
            }
            default: { int what = from(0, 10); same("count(" + what + ")", x.count(what), plain.count(what)); }
        }
    }
}
