import java.io.IOException;
import java.util.function.Supplier;

/**
 * Each refusal of each call: what it answers, of several the first as told, and that it changes nothing:
 * an object that heard it tells the same ever after as one that did not.
 */
public final class RefusalsTest {
    private static final int LOW = Integer.MIN_VALUE;
    private static final int HIGH = Integer.MAX_VALUE;
    /** Times eight, as a row of yards by yards is told, it wraps around to 0. */
    private static final int WRAPS = 1 << 29;
    private static final int UNKNOWN = -101, OUTSIDE = -102, STATE = -103, FULL = -104;
    private static final Check check = new Check("RefusalsTest");

    private interface Call {
        long on(WagonWays x);
    }

    private static final Supplier<WagonWays> BUSY = Scenes::busy;
    private static final Supplier<WagonWays> FULL_UP = Scenes::full;
    private static final long[] BUSY_TELLS = Scenes.tell(Scenes.busy());
    private static final long[] FULL_TELLS = Scenes.tell(Scenes.full());

    public static void main(String[] args) throws IOException {
        check.reads(args);
        check.says("Refusals, of several the first as told by each call: UNKNOWN (a number names nothing), "
            + "OUTSIDE (it is not as told), STATE (as told), FULL; they change nothing.");
        land();
        miles();
        letters();
        block();
        aboutGoesWay();
        train();
        trainOrder();
        wagon();
        sortingAndRest();
        close();
        pass();
        wagonIsTrainIsYard();
        roll();
        numberStepsStands();
        loadTracksPrice();
        cost();
        net();
        empties();
        leg();
        sharePromise();
        change();
        crewsAndCount();
        check.end();
    }

    private static void busy(String call, Call c, long want) {
        refused(BUSY, BUSY_TELLS, "busy: " + call, c, want);
    }

    private static void full(String call, Call c, long want) {
        refused(FULL_UP, FULL_TELLS, "full: " + call, c, want);
    }

    private static void refused(Supplier<WagonWays> scene, long[] tells, String call, Call c, long want) {
        WagonWays x = scene.get();
        check.due(call, c.on(x), want);
        check.alike(call + " changes nothing", Scenes.tell(x), tells);
    }

    /** A scene of its own, told twice: with the call and without it. */
    private static void refused(Supplier<WagonWays> scene, String call, Call c, long want) {
        refused(scene, Scenes.tell(scene.get()), call, c, want);
    }

    private static int[] beside(int least, int greatest) {
        return new int[] {least - 1, greatest + 1, LOW, HIGH};
    }

    /** Numbers that name no yard of the busy scene; the full one has yards up to 7. */
    private static int[] noYard(int n) {
        return new int[] {-1, n, LOW, HIGH, WRAPS, -WRAPS, WRAPS + 1};
    }

    private static void land() {
        check.says("n YARDS; all else as at first: n. OUTSIDE.");
        for (int n : new int[] {LOW, -1, 0, 1, 9, 10, HIGH}) {
            busy("land(" + n + ")", x -> x.land(n), OUTSIDE);
        }
        full("land(1)", x -> x.land(1), OUTSIDE);
        full("land(9)", x -> x.land(9), OUTSIDE);
    }

    private static void miles() {
        check.says("MILES become v: what they were. UNKNOWN: a, b, or they are the same; OUTSIDE.");
        for (int y : noYard(4)) {
            busy("miles(" + y + ", 0, 5)", x -> x.miles(y, 0, 5), UNKNOWN);
            busy("miles(0, " + y + ", 5)", x -> x.miles(0, y, 5), UNKNOWN);
            busy("miles(" + y + ", 0, 0)", x -> x.miles(y, 0, 0), UNKNOWN);
            busy("miles(0, " + y + ", 100)", x -> x.miles(0, y, 100), UNKNOWN);
        }
        for (int a = 0; a < 4; a++) {
            int same = a;
            busy("miles of a yard to itself", x -> x.miles(same, same, 5), UNKNOWN);
            busy("miles of a yard to itself, outside too", x -> x.miles(same, same, 0), UNKNOWN);
        }
        for (int v : beside(1, 99)) {
            busy("miles(0, 1, " + v + ")", x -> x.miles(0, 1, v), OUTSIDE);
            busy("miles(3, 2, " + v + ")", x -> x.miles(3, 2, v), OUTSIDE);
        }
        full("miles(8, 0, 5)", x -> x.miles(8, 0, 5), UNKNOWN);
        full("miles(0, 8, 5)", x -> x.miles(0, 8, 5), UNKNOWN);
        full("miles(7, 7, 5)", x -> x.miles(7, 7, 5), UNKNOWN);
        check.says("The least MILES over any YARDS (0 to itself). UNKNOWN.");
        for (int y : noYard(4)) {
            busy("far(" + y + ", 0)", x -> x.far(y, 0), UNKNOWN);
            busy("far(0, " + y + ")", x -> x.far(0, y), UNKNOWN);
            busy("far of no yard to itself", x -> x.far(y, y), UNKNOWN);
        }
        full("far(8, 7)", x -> x.far(8, 7), UNKNOWN);
        full("far(7, 8)", x -> x.far(7, 8), UNKNOWN);
    }

    private static void letters() {
        check.says("OUTSIDE: a byte above 126, or one behind a 0 that is not 0; FULL: above 40.");
        for (int place = 0; place < 8; place++) {
            for (long code : new long[] {127, 128, 255}) {
                long low = Check.word("AAAAAAAA".substring(0, place));
                long w = low | code << 8 * place;
                busy("letters(" + w + ")", x -> x.letters(w), OUTSIDE);
                full("letters(" + w + "), full too", x -> x.letters(w), OUTSIDE);
            }
            for (int zero = 0; zero < place; zero++) {
                long w = Check.word("AAAAAAAA".substring(0, zero)) | 1L << 8 * place;
                busy("letters(" + w + ") behind a 0", x -> x.letters(w), OUTSIDE);
                full("letters(" + w + ") behind a 0, full too", x -> x.letters(w), OUTSIDE);
            }
        }
        for (int more = 1; more <= 8; more++) {
            long w = Check.word("ABCDEFGH".substring(0, more));
            full(more + " letters", x -> x.letters(w), FULL);
        }
    }

    private static void block() {
        check.says("THE PAGE is read as a BLOCK: its number; THE PAGE is empty then. STATE: it is none; FULL.");
        busy("block() of a beginning", WagonWays::block, STATE);
        full("block() of a text and more, full too", WagonWays::block, STATE);
        Supplier<WagonWays> text = () -> {
            WagonWays x = Scenes.full();
            x.blank();
            Check.write(x, "A>B:B");
            return x;
        };
        refused(text, "block() of a text", WagonWays::block, FULL);
        Supplier<WagonWays> empty = () -> {
            WagonWays x = Scenes.full();
            x.blank();
            return x;
        };
        refused(empty, "block() of an empty page", WagonWays::block, STATE);
    }

    private static void aboutGoesWay() {
        check.says("Of a BLOCK: what = 0 where it is made, 1 for which YARD, 2 for wagons of which YARDS (bits), 3 RANK. UNKNOWN; OUTSIDE.");
        for (int b : beside(0, 5)) {
            busy("about(" + b + ", 0)", x -> x.about(b, 0), UNKNOWN);
            busy("about(" + b + ", 4)", x -> x.about(b, 4), UNKNOWN);
            busy("about(" + b + ", -1)", x -> x.about(b, -1), UNKNOWN);
        }
        for (int what : beside(0, 3)) {
            busy("about(5, " + what + ")", x -> x.about(5, what), OUTSIDE);
        }
        full("about(20, 0)", x -> x.about(20, 0), UNKNOWN);
        full("about(19, 4)", x -> x.about(19, 4), OUTSIDE);
        check.says("The BLOCK into which a wagon for d goes at a; NONE. UNKNOWN: a, d.");
        for (int y : noYard(4)) {
            busy("goes(" + y + ", 0)", x -> x.goes(y, 0), UNKNOWN);
            busy("goes(0, " + y + ")", x -> x.goes(0, y), UNKNOWN);
        }
        full("goes(8, 0)", x -> x.goes(8, 0), UNKNOWN);
        full("goes(0, 8)", x -> x.goes(0, 8), UNKNOWN);
        check.says("NONE: there is no WAY. UNKNOWN; OUTSIDE: what (10 to 18 else).");
        for (int y : noYard(4)) {
            busy("way(" + y + ", 0, 0)", x -> x.way(y, 0, 0), UNKNOWN);
            busy("way(0, " + y + ", 0)", x -> x.way(0, y, 0), UNKNOWN);
            busy("way(" + y + ", 0, 2)", x -> x.way(y, 0, 2), UNKNOWN);
            busy("way(0, " + y + ", 19)", x -> x.way(0, y, 19), UNKNOWN);
        }
        for (int what : new int[] {LOW, -1, 2, 3, 9, 19, HIGH}) {
            busy("way(0, 3, " + what + ")", x -> x.way(0, 3, what), OUTSIDE);
            busy("way(2, 0, " + what + ") without a way", x -> x.way(2, 0, what), OUTSIDE);
        }
        full("way(7, 8, 0)", x -> x.way(7, 8, 0), UNKNOWN);
    }

    private static void train() {
        check.says("A TRAIN: its number. UNKNOWN: BLOCK x, or y (NONE: it has one alone), which are not made alike; "
            + "OUTSIDE: days (1 to 127), hour, takes, length; FULL.");
        for (int b : beside(0, 5)) {
            busy("train(" + b + ", -1, ..)", x -> x.train(b, -1, 1, 0, 1, 1), UNKNOWN);
            busy("train(" + b + ", 0, ..)", x -> x.train(b, 0, 1, 0, 1, 1), UNKNOWN);
        }
        for (int b : new int[] {-2, 6, LOW, HIGH}) {
            busy("train(0, " + b + ", ..)", x -> x.train(0, b, 1, 0, 1, 1), UNKNOWN);
        }
        // Block 2 is B > C, block 5 is B > A, block 4 is D > A.
        busy("made at one yard for two", x -> x.train(2, 5, 1, 0, 1, 1), UNKNOWN);
        busy("made at two yards for one", x -> x.train(4, 5, 1, 0, 1, 1), UNKNOWN);
        busy("made to and fro", x -> x.train(0, 5, 1, 0, 1, 1), UNKNOWN);
        for (int v : beside(1, 127)) {
            busy("days " + v, x -> x.train(0, -1, v, 0, 1, 1), OUTSIDE);
        }
        for (int v : beside(0, 23)) {
            busy("hour " + v, x -> x.train(0, -1, 1, v, 1, 1), OUTSIDE);
        }
        for (int v : beside(1, 48)) {
            busy("takes " + v, x -> x.train(0, -1, 1, 0, v, 1), OUTSIDE);
        }
        for (int v : beside(1, 12)) {
            busy("length " + v, x -> x.train(0, 1, 1, 0, 1, v), OUTSIDE);
        }
    }

    private static void trainOrder() {
        int[][] outside = {{0, 0, 1, 1}, {1, 24, 1, 1}, {1, 0, 49, 1}, {1, 0, 1, 13}};
        for (int[] o : outside) {
            busy("unknown and outside", x -> x.train(6, -1, o[0], o[1], o[2], o[3]), UNKNOWN);
            busy("second unknown and outside", x -> x.train(0, 6, o[0], o[1], o[2], o[3]), UNKNOWN);
            busy("not alike and outside", x -> x.train(0, 2, o[0], o[1], o[2], o[3]), UNKNOWN);
            full("outside and full", x -> x.train(0, 19, o[0], o[1], o[2], o[3]), OUTSIDE);
            full("unknown, outside and full", x -> x.train(20, -1, o[0], o[1], o[2], o[3]), UNKNOWN);
        }
        full("unknown and full", x -> x.train(-1, -1, 1, 0, 1, 1), UNKNOWN);
        full("not alike and full", x -> x.train(0, 1, 1, 0, 1, 1), UNKNOWN);
        full("a thirteenth train", x -> x.train(0, -1, 1, 0, 1, 1), FULL);
        full("a thirteenth train of two blocks", x -> x.train(0, 19, 127, 23, 48, 12), FULL);
    }

    private static void wagon() {
        check.says("A WAGON at a YARD for a goal: its number. UNKNOWN: yards, or they are the same; FULL.");
        for (int y : noYard(4)) {
            busy("wagon(" + y + ", 0)", x -> x.wagon(y, 0), UNKNOWN);
            busy("wagon(0, " + y + ")", x -> x.wagon(0, y), UNKNOWN);
        }
        for (int a = 0; a < 8; a++) {
            int same = a;
            full("wagon for where it stands, full too", x -> x.wagon(same, same), UNKNOWN);
        }
        busy("wagon(3, 3)", x -> x.wagon(3, 3), UNKNOWN);
        full("wagon(8, 0), full too", x -> x.wagon(8, 0), UNKNOWN);
        full("wagon(0, 8), full too", x -> x.wagon(0, 8), UNKNOWN);
        full("a 31st wagon", x -> x.wagon(0, 7), FULL);
    }

    private static void sortingAndRest() {
        check.says("SORTING takes s HOURS: what it took (those that stand are READY as they are). OUTSIDE.");
        for (int s : beside(0, 12)) {
            busy("sorting(" + s + ")", x -> x.sorting(s), OUTSIDE);
        }
        check.says("REST becomes r: what it was. OUTSIDE.");
        for (int r : beside(0, 48)) {
            busy("rest(" + r + ")", x -> x.rest(r), OUTSIDE);
        }
    }

    private static void close() {
        check.says("A YARD is CLOSED from a day to a day (0 to 99, the second not below the first; NONE, NONE: never): 1. UNKNOWN; OUTSIDE.");
        for (int y : noYard(4)) {
            busy("close(" + y + ", 0, 1)", x -> x.close(y, 0, 1), UNKNOWN);
            busy("close(" + y + ", -1, -1)", x -> x.close(y, -1, -1), UNKNOWN);
            busy("close(" + y + ", 1, 0)", x -> x.close(y, 1, 0), UNKNOWN);
            busy("close(" + y + ", 0, 100)", x -> x.close(y, 0, 100), UNKNOWN);
        }
        int[][] outside = {{-1, 0}, {0, -1}, {-1, 99}, {99, -1}, {-2, -2}, {-2, -1}, {-1, -2}, {-2, 3}, {1, 0}, {99, 98},
            {0, 100}, {99, 100}, {100, 100}, {100, 99}, {LOW, LOW}, {LOW, HIGH}, {HIGH, LOW}, {0, HIGH}, {HIGH, HIGH}};
        for (int[] o : outside) {
            // Yard 2 is closed already and yard 0 is not: both stay as they are.
            busy("close(2, " + o[0] + ", " + o[1] + ")", x -> x.close(2, o[0], o[1]), OUTSIDE);
            busy("close(0, " + o[0] + ", " + o[1] + ")", x -> x.close(0, o[0], o[1]), OUTSIDE);
        }
    }

    private static void pass() {
        check.says("n HOURS (1 to 200) go by: THE CLOCK. OUTSIDE; STATE: it would be above 2000.");
        for (int n : new int[] {0, 201, -1, LOW, HIGH}) {
            busy("pass(" + n + ")", x -> x.pass(n), OUTSIDE);
            full("pass(" + n + "), above 2000 too", x -> x.pass(n), OUTSIDE);
        }
        full("pass(1) behind 2000", x -> x.pass(1), STATE);
        full("pass(200) behind 2000", x -> x.pass(200), STATE);
        Supplier<WagonWays> late = () -> {
            WagonWays x = Scenes.busy();
            for (int i = 0; i < 9; i++) {
                x.pass(200);
            }
            return x;
        };
        // The busy scene is at 66, so that this is at 1866.
        refused(late, "pass(135) to 2001", x -> x.pass(135), STATE);
        refused(late, "pass(200) to 2066", x -> x.pass(200), STATE);
    }

    private static void wagonIsTrainIsYard() {
        check.says("4 whether it is done (1, 0), 5 its goal. UNKNOWN; OUTSIDE.");
        for (int w : beside(0, 7)) {
            busy("wagonIs(" + w + ", 0)", x -> x.wagonIs(w, 0), UNKNOWN);
            busy("wagonIs(" + w + ", 6)", x -> x.wagonIs(w, 6), UNKNOWN);
        }
        for (int what : beside(0, 5)) {
            busy("wagonIs(7, " + what + ")", x -> x.wagonIs(7, what), OUTSIDE);
        }
        full("wagonIs(30, 0)", x -> x.wagonIs(30, 0), UNKNOWN);
        check.says("2 how often it did not run for a CLOSED YARD, 3 how many runnings of it are on the way. UNKNOWN; OUTSIDE.");
        for (int t : beside(0, 3)) {
            busy("trainIs(" + t + ", 0)", x -> x.trainIs(t, 0), UNKNOWN);
            busy("trainIs(" + t + ", 4)", x -> x.trainIs(t, 4), UNKNOWN);
        }
        for (int what : beside(0, 3)) {
            busy("trainIs(3, " + what + ")", x -> x.trainIs(3, what), OUTSIDE);
        }
        full("trainIs(12, 0)", x -> x.trainIs(12, 0), UNKNOWN);
        check.says("How many WAGONS stand at a YARD (what = 0), of these READY (1). UNKNOWN; OUTSIDE.");
        for (int y : noYard(4)) {
            busy("yard(" + y + ", 0)", x -> x.yard(y, 0), UNKNOWN);
            busy("yard(" + y + ", 2)", x -> x.yard(y, 2), UNKNOWN);
        }
        for (int what : beside(0, 1)) {
            busy("yard(3, " + what + ")", x -> x.yard(3, what), OUTSIDE);
        }
        full("yard(8, 0)", x -> x.yard(8, 0), UNKNOWN);
    }

    private static void roll() {
        check.says("A wagon comes behind THE ROW with a mark: how many. OUTSIDE; FULL.");
        for (int mark : beside(0, 15)) {
            busy("roll(" + mark + ")", x -> x.roll(mark), OUTSIDE);
            full("roll(" + mark + "), full too", x -> x.roll(mark), OUTSIDE);
        }
        full("a 17th of mark 0", x -> x.roll(0), FULL);
        full("a 17th of mark 15", x -> x.roll(15), FULL);
    }

    private static void numberStepsStands() {
        Supplier<WagonWays> driven = () -> {
            WagonWays x = Scenes.busy();
            x.drive();
            return x;
        };
        check.says("NUMBER of the i-th of THE ROW. UNKNOWN.");
        for (int i : beside(0, 6)) {
            busy("number(" + i + ")", x -> x.number(i), UNKNOWN);
        }
        full("number(16)", x -> x.number(16), UNKNOWN);
        refused(driven, "number(0) of an empty row", x -> x.number(0), UNKNOWN);
        check.says("STEPS by T TRACKS. OUTSIDE; STATE: THE ROW is empty.");
        for (int tracks : beside(2, 8)) {
            busy("steps(" + tracks + ")", x -> x.steps(tracks), OUTSIDE);
            refused(driven, "steps(" + tracks + ") of an empty row", x -> x.steps(tracks), OUTSIDE);
        }
        for (int tracks = 2; tracks <= 8; tracks++) {
            int t = tracks;
            refused(driven, "steps(" + t + ") of an empty row", x -> x.steps(t), STATE);
        }
        check.says("which wagon (by its place in THE ROW) stands at place i. UNKNOWN: i; OUTSIDE: tracks, k (0 to STEPS).");
        for (int i : beside(0, 6)) {
            busy("stands(2, 0, " + i + ")", x -> x.stands(2, 0, i), UNKNOWN);
            busy("stands(1, 0, " + i + ")", x -> x.stands(1, 0, i), UNKNOWN);
            busy("stands(2, -1, " + i + ")", x -> x.stands(2, -1, i), UNKNOWN);
        }
        refused(driven, "stands in an empty row", x -> x.stands(2, 0, 0), UNKNOWN);
        refused(driven, "stands in an empty row, outside too", x -> x.stands(9, 0, 0), UNKNOWN);
        for (int tracks : beside(2, 8)) {
            busy("stands(" + tracks + ", 0, 0)", x -> x.stands(tracks, 0, 0), OUTSIDE);
        }
        // The greatest number of the full row is 15: 4 steps by 2 tracks, 3 by 3, 2 by 4 and more.
        int[] steps = {4, 3, 2, 2, 2, 2, 2};
        for (int tracks = 2; tracks <= 8; tracks++) {
            int t = tracks;
            for (int k : beside(0, steps[t - 2])) {
                full("stands(" + t + ", " + k + ", 15)", x -> x.stands(t, k, 15), OUTSIDE);
            }
        }
    }

    private static void loadTracksPrice() {
        check.says("LOADS become v: what they were. UNKNOWN: a, d, or they are the same; OUTSIDE.");
        for (int y : noYard(4)) {
            busy("load(" + y + ", 0, 5)", x -> x.load(y, 0, 5), UNKNOWN);
            busy("load(0, " + y + ", 5)", x -> x.load(0, y, 5), UNKNOWN);
            busy("load(" + y + ", 0, 100)", x -> x.load(y, 0, 100), UNKNOWN);
        }
        busy("load(2, 2, 5)", x -> x.load(2, 2, 5), UNKNOWN);
        busy("load(2, 2, 100)", x -> x.load(2, 2, 100), UNKNOWN);
        full("load(7, 8, 5)", x -> x.load(7, 8, 5), UNKNOWN);
        for (int v : beside(0, 99)) {
            busy("load(0, 3, " + v + ")", x -> x.load(0, 3, v), OUTSIDE);
        }
        check.says("TRACKS of a YARD become v: what they were. UNKNOWN; OUTSIDE.");
        for (int y : noYard(4)) {
            busy("tracks(" + y + ", 1)", x -> x.tracks(y, 1), UNKNOWN);
            busy("tracks(" + y + ", 8)", x -> x.tracks(y, 8), UNKNOWN);
        }
        for (int v : beside(0, 7)) {
            busy("tracks(0, " + v + ")", x -> x.tracks(0, v), OUTSIDE);
        }
        full("tracks(8, 1)", x -> x.tracks(8, 1), UNKNOWN);
        check.says("HANDLING (which = 0), STAY (1) becomes v: what it was. UNKNOWN: which; OUTSIDE.");
        for (int which : beside(0, 1)) {
            busy("price(" + which + ", 1)", x -> x.price(which, 1), UNKNOWN);
            busy("price(" + which + ", 100)", x -> x.price(which, 100), UNKNOWN);
        }
        for (int v : beside(0, 99)) {
            busy("price(0, " + v + ")", x -> x.price(0, v), OUTSIDE);
            busy("price(1, " + v + ")", x -> x.price(1, v), OUTSIDE);
        }
    }

    private static void cost() {
        check.says("OUTSIDE: a BLOCK is not from a YARD for another one, or some YARD makes more than it has TRACKS.");
        long whole = 0x0E | 0x05L << 8 | 0x01L << 16 | 0x03L << 24;
        for (int bit = 0; bit < 64; bit++) {
            int a = bit / 8;
            int b = bit % 8;
            if (a > 3 || b > 3 || a == b) {
                long alone = 1L << bit;
                busy("cost of bit " + bit, x -> x.cost(alone), OUTSIDE);
                busy("cost of bit " + bit + " and others", x -> x.cost(alone | whole), OUTSIDE);
            }
        }
        // A has three tracks, B two, C one and D two.
        busy("three of B", x -> x.cost(0x0D00L), OUTSIDE);
        busy("two of C", x -> x.cost(0x030000L), OUTSIDE);
        busy("three of D", x -> x.cost(0x07000000L), OUTSIDE);
        full("three of A", x -> x.cost(0x0EL), OUTSIDE);
        full("eight of H", x -> x.cost(0xFFL << 56), OUTSIDE);
        busy("all bits", x -> x.cost(-1L), OUTSIDE);
        busy("the highest bit", x -> x.cost(Long.MIN_VALUE), OUTSIDE);
    }

    private static void net() {
        check.says("NONE: there is none (0, 1). OUTSIDE: what; STATE: n is above 4 (for 0, 1).");
        for (int what : beside(0, 2)) {
            busy("net(" + what + ")", x -> x.net(what), OUTSIDE);
            full("net(" + what + "), above 4 too", x -> x.net(what), OUTSIDE);
        }
        full("net(0)", x -> x.net(0), STATE);
        full("net(1)", x -> x.net(1), STATE);
    }

    private static void empties() {
        check.says("What is over or wanted of EMPTIES becomes v: what it was; -1000: UNKNOWN: yard, week, -1001: OUTSIDE.");
        for (int y : noYard(4)) {
            busy("empties(" + y + ", 0, 1)", x -> x.empties(y, 0, 1), -1000);
            busy("empties(" + y + ", 3, 51)", x -> x.empties(y, 3, 51), -1000);
        }
        for (int week : beside(0, 2)) {
            busy("empties(0, " + week + ", 1)", x -> x.empties(0, week, 1), -1000);
            busy("empties(0, " + week + ", -51)", x -> x.empties(0, week, -51), -1000);
        }
        for (int v : beside(-50, 50)) {
            busy("empties(0, 0, " + v + ")", x -> x.empties(0, 0, v), -1001);
            busy("empties(2, 2, " + v + ")", x -> x.empties(2, 2, v), -1001);
        }
        full("empties(8, 0, 1)", x -> x.empties(8, 0, 1), -1000);
        full("empties(7, 3, 1)", x -> x.empties(7, 3, 1), -1000);
    }

    private static void leg() {
        check.says("A LEG comes behind the others: how many. OUTSIDE; FULL.");
        for (int hours : beside(1, 99)) {
            busy("leg(" + hours + ", 0)", x -> x.leg(hours, 0), OUTSIDE);
            full("leg(" + hours + ", 0), full too", x -> x.leg(hours, 0), OUTSIDE);
        }
        for (int tenths : beside(0, 9)) {
            busy("leg(1, " + tenths + ")", x -> x.leg(1, tenths), OUTSIDE);
            full("leg(1, " + tenths + "), full too", x -> x.leg(1, tenths), OUTSIDE);
        }
        full("a sixth leg", x -> x.leg(1, 0), FULL);
        full("a sixth leg, the longest", x -> x.leg(99, 9), FULL);
    }

    private static void sharePromise() {
        check.says("in lowest terms: part 0 above, 1 below. OUTSIDE (as -102).");
        for (int hours : beside(0, 999)) {
            busy("share(" + hours + ", 0)", x -> x.share(hours, 0), -102L);
            busy("share(" + hours + ", 1)", x -> x.share(hours, 1), -102L);
        }
        for (int part : beside(0, 1)) {
            busy("share(99, " + part + ")", x -> x.share(99, part), -102L);
        }
        check.says("NONE: none does (by 5 MISSES at most). OUTSIDE.");
        for (int p : beside(1, 999)) {
            busy("promise(" + p + ")", x -> x.promise(p), OUTSIDE);
        }
    }

    private static void change() {
        check.says("UNKNOWN: c; OUTSIDE: what (0, 10 to 29); STATE: more than 4 BLOCKS are made for c, or it was done 20 times.");
        int[] nothing = {LOW, -1, 1, 9, 30, HIGH};
        for (int c : noYard(4)) {
            busy("change(" + c + ", 0)", x -> x.change(c, 0), UNKNOWN);
            busy("change(" + c + ", 1)", x -> x.change(c, 1), UNKNOWN);
        }
        for (int what : nothing) {
            busy("change(0, " + what + ")", x -> x.change(0, what), OUTSIDE);
            full("change(0, " + what + "), done 20 times too", x -> x.change(0, what), OUTSIDE);
        }
        full("change(8, 0), done 20 times too", x -> x.change(8, 0), UNKNOWN);
        full("a 21st change", x -> x.change(3, 0), STATE);
        full("a 21st change, of a block", x -> x.change(3, 29), STATE);
        Supplier<WagonWays> five = () -> {
            WagonWays x = Check.withBlocks(8, "B>A:H", "C>A:H", "D>A:H", "E>A:H", "F>A:H");
            x.load(1, 7, 1);
            x.change(1, 0);
            return x;
        };
        refused(five, "five blocks are made for it", x -> x.change(0, 0), STATE);
        refused(five, "five blocks are made for it, what is 29", x -> x.change(0, 29), STATE);
        refused(five, "five blocks, outside too", x -> x.change(0, 30), OUTSIDE);
    }

    private static void crewsAndCount() {
        check.says("What = 0 how many DUTIES, 1 FEWEST CREWS, 2 HOURS of all DUTIES. OUTSIDE.");
        for (int what : beside(0, 2)) {
            busy("crews(" + what + ")", x -> x.crews(what), OUTSIDE);
        }
        check.says("9 letters of THE PAGE, 10 how often change() was done. OUTSIDE.");
        for (int what : beside(0, 10)) {
            busy("count(" + what + ")", x -> x.count(what), OUTSIDE);
        }
    }
}
