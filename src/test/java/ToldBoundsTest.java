import java.io.IOException;
import java.math.BigInteger;

/** Promises 40 and 41: what is told of nothing, of as much as there may be, and of numbers that wrap around. */
public final class ToldBoundsTest {
    private static final int OUTSIDE = -102;
    private static final Check check = new Check("ToldBoundsTest");

    private BigInteger told = BigInteger.valueOf(229);

    public static void main(String[] args) throws IOException {
        check.reads(args);
        countOfNothing();
        countOfAll();
        countOfSome();
        countWhat();
        digestOfNothing();
        digestOfSome();
        digestOfAll();
        digestOfLeastAndGreatest();
        digestOrder();
        check.end();
    }

    private static void countsAre(WagonWays x, String of, int... want) {
        for (int what = 0; what <= 10; what++) {
            check.due("count(" + what + ") of " + of, x.count(what), want[what]);
        }
    }

    private static void countOfNothing() {
        check.says("What = 0 YARDS, 1 BLOCKS, 2 TRAINS, 3 WAGONS, 4 THE CLOCK, 5 WAGONS that are done, 6 that run, "
            + "7 wagons in THE ROW, 8 LEGS, 9 letters of THE PAGE, 10 how often change() was done. OUTSIDE.");
        countsAre(new WagonWays(), "nothing", 4, 0, 0, 0, 0, 0, 0, 0, 0, 0, 0);
        for (int n = 2; n <= 8; n++) {
            WagonWays x = Scenes.full();
            x.land(n);
            countsAre(x, n + " yards", n, 0, 0, 0, 0, 0, 0, 0, 0, 0, 0);
        }
    }

    private static void countOfAll() {
        countsAre(Scenes.full(), "all", 8, 20, 12, 30, 2000, 30, 0, 16, 5, 40, 20);
    }

    private static void countOfSome() {
        countsAre(Scenes.busy(), "some", 4, 6, 4, 8, 66, 4, 1, 7, 2, 4, 1);
        // Of thirty wagons twelve are done, twelve run and six stand.
        WagonWays x = Check.withBlocks(2, "A>B:B");
        x.train(0, -1, 1, 0, 1, 12);
        x.train(0, -1, 1, 1, 48, 12);
        for (int w = 0; w < 30; w++) {
            x.wagon(0, 1);
        }
        x.pass(1);
        countsAre(x, "twelve that run", 2, 1, 2, 30, 1, 0, 12, 0, 0, 0, 0);
        x.pass(1);
        countsAre(x, "twelve that run and are done", 2, 1, 2, 30, 2, 12, 12, 0, 0, 0, 0);
        x.pass(47);
        countsAre(x, "those that come in at the clock", 2, 1, 2, 30, 49, 12, 12, 0, 0, 0, 0);
        x.pass(1);
        countsAre(x, "all that left", 2, 1, 2, 30, 50, 24, 0, 0, 0, 0, 0);
    }

    private static void countWhat() {
        WagonWays x = Scenes.full();
        check.due("count(-1)", x.count(-1), OUTSIDE);
        check.due("count(0)", x.count(0), 8);
        check.due("count(10)", x.count(10), 20);
        check.due("count(11)", x.count(11), OUTSIDE);
    }

    /** 31 times h, and the next number, without wrapping: what a long keeps of it is due. */
    private ToldBoundsTest then(int... numbers) {
        for (int number : numbers) {
            told = told.multiply(BigInteger.valueOf(31)).add(BigInteger.valueOf(number));
        }
        return this;
    }

    private ToldBoundsTest times(int many, int number) {
        for (int i = 0; i < many; i++) {
            then(number);
        }
        return this;
    }

    private void isDue(String of, WagonWays x) {
        check.due("digest of " + of, x.digest(), told.longValue());
        check.due("digest of " + of + " again", x.digest(), told.longValue());
    }

    private static void digestOfNothing() {
        check.says("h is 229, then for each of these numbers, in order, 31 times h, and it (as longs, wrapping)");
        for (int n = 2; n <= 8; n++) {
            WagonWays x = new WagonWays();
            x.land(n);
            ToldBoundsTest due = new ToldBoundsTest();
            due.then(n).times(n * (n - 1) / 2, 10).then(0).times(n * n, 0).times(n, 2).times(3 * n, 0).then(0);
            due.isDue("nothing, " + n + " yards", x);
            check.isTrue("it wraps around", due.told.bitLength() > 64 || n < 3);
        }
    }

    private ToldBoundsTest blocksTrainsWagons(WagonWays x) {
        int blocks = x.count(1);
        int trains = x.count(2);
        int wagons = x.count(3);
        for (int b = 0; b < blocks; b++) {
            then(x.about(b, 0), x.about(b, 1), x.about(b, 2), x.about(b, 3));
        }
        for (int t = 0; t < trains; t++) {
            then(x.trainIs(t, 0), x.trainIs(t, 1), x.trainIs(t, 2), x.trainIs(t, 3));
        }
        for (int w = 0; w < wagons; w++) {
            then(x.wagonIs(w, 0), x.wagonIs(w, 1), x.wagonIs(w, 2), x.wagonIs(w, 3), x.wagonIs(w, 4), x.wagonIs(w, 5));
        }
        return this;
    }

    private ToldBoundsTest letters(String text) {
        for (char letter : text.toCharArray()) {
            then(letter);
        }
        return this;
    }

    private static void digestOfSome() {
        check.says("n; MILES of a below b, by a, then b; of each BLOCK what about() tells for 0 to 3; of each TRAIN what "
            + "trainIs() tells for 0 to 3; of each WAGON what wagonIs() tells for 0 to 5; THE CLOCK; THE ROW; of all a, d LOADS");
        WagonWays x = Scenes.busy();
        ToldBoundsTest due = new ToldBoundsTest();
        due.then(4, 7, 10, 41, 23, 10, 10).blocksTrainsWagons(x).then(66, 5, 3, 9, 3, 1, 0, 9);
        due.then(0, 0, 0, 5, 9, 0, 0, 0, 0, 0, 0, 0, 0, 2, 0, 0).then(3, 2, 1, 2);
        due.then(20, 0, 0, 0, -5, 0, 0, 0, -7, 0, 0, 0).then(10, 1, 20, 3).letters("A>C:").then(1);
        due.isDue("some", x);
    }

    private static void digestOfAll() {
        WagonWays x = Scenes.full();
        ToldBoundsTest due = new ToldBoundsTest();
        due.then(8).times(28, 10).blocksTrainsWagons(x).then(2000);
        for (int i = 0; i < 16; i++) {
            due.then(15 - i);
        }
        due.times(7, 0).then(99).times(48, 0).times(3, 0).then(99).times(4, 0).times(7, 2).then(7);
        due.then(50, 0, 0, 0, 50, 0, 0, 0, 50).times(12, 0).then(-50, -50, -50);
        for (int i = 0; i < 5; i++) {
            due.then(99 - i, 9 - i);
        }
        due.letters("H>A:BCDEFG/9 and as many letters as fit.").then(20).isDue("all", x);
    }

    private static void digestOfLeastAndGreatest() {
        WagonWays x = new WagonWays();
        x.land(2);
        x.miles(0, 1, 99);
        x.load(1, 0, 99);
        x.tracks(0, 0);
        x.tracks(1, 7);
        x.empties(0, 0, -50);
        x.empties(1, 2, 50);
        x.leg(1, 0);
        x.leg(99, 9);
        x.roll(0);
        x.roll(15);
        x.letters(1 | 126 << 8);
        ToldBoundsTest due = new ToldBoundsTest();
        due.then(2, 99, 0, 0, 15, 0, 0, 99, 0, 0, 7, -50, 0, 0, 0, 0, 50, 1, 0, 99, 9, 1, 126, 0);
        due.isDue("the least and the greatest", x);
    }

    private static void digestOrder() {
        check.says("MILES of a below b, by a, then b");
        WagonWays x = new WagonWays();
        int miles = 0;
        for (int a = 0; a < 4; a++) {
            for (int b = a + 1; b < 4; b++) {
                miles++;
                x.miles(b, a, miles);
            }
        }
        ToldBoundsTest due = new ToldBoundsTest();
        due.then(4, 1, 2, 3, 4, 5, 6).then(0).times(16, 0).times(4, 2).times(12, 0).then(0).isDue("miles", x);
        check.says("of all a, d LOADS (0 for a, a); TRACKS; EMPTIES of each YARD of weeks 0 to 2; LEGS: hours, tenths; letters of THE PAGE; what count() tells for 10.");
        WagonWays y = new WagonWays();
        ToldBoundsTest loads = new ToldBoundsTest();
        loads.then(4).times(6, 10).then(0);
        for (int a = 0; a < 4; a++) {
            for (int d = 0; d < 4; d++) {
                y.load(a, d, 10 * a + d + 1);
                loads.then(a == d ? 0 : 10 * a + d + 1);
            }
        }
        for (int a = 0; a < 4; a++) {
            y.tracks(a, a + 1);
            loads.then(a + 1);
        }
        for (int a = 0; a < 4; a++) {
            for (int week = 0; week < 3; week++) {
                y.empties(a, week, 10 * week - a);
                loads.then(10 * week - a);
            }
        }
        loads.then(0).isDue("loads, tracks and empties", y);
        y.change(0, 0);
        check.isTrue("a change is told", y.digest() != loads.told.longValue());
        check.due("as the last number", y.digest(), loads.told.longValue() + 1);
    }
}
