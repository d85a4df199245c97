import java.util.ArrayList;
import java.util.List;

/**
 * Objects to begin from, and all that one tells. An object is used for 512 calls at most, so each test makes
 * its own: a scene takes 150 calls or fewer, and telling 350 or fewer.
 */
final class Scenes {
    private Scenes() {
    }

    /** Four yards, with something of all that can be set, and nothing as at first. */
    static WagonWays busy() {
        WagonWays x = Check.withBlocks(4, "A>B:BCD", "A>B:CD/6", "B>C:CD", "C>D:D", "D>A:ABC", "B>A:A");
        x.miles(0, 1, 7);
        x.miles(1, 2, 23);
        x.miles(3, 0, 41);
        x.sorting(3);
        x.train(0, 1, 127, 3, 5, 2);
        x.train(2, -1, 127, 12, 20, 3);
        x.train(3, -1, 62, 0, 48, 1);
        x.train(4, -1, 127, 7, 9, 12);
        int[][] wagons = {{0, 1}, {0, 2}, {0, 3}, {1, 3}, {3, 2}, {3, 0}, {2, 0}};
        for (int[] w : wagons) {
            x.wagon(w[0], w[1]);
        }
        x.pass(61);
        x.wagon(0, 1);
        x.pass(5);
        x.close(2, 4, 6);
        x.rest(5);
        for (int mark : new int[] {5, 3, 9, 3, 1, 0, 9}) {
            x.roll(mark);
        }
        x.load(0, 3, 5);
        x.load(3, 1, 2);
        x.load(1, 0, 9);
        x.tracks(0, 3);
        x.tracks(2, 1);
        x.price(0, 15);
        x.price(1, 7);
        x.net(0);
        x.empties(0, 0, 20);
        x.empties(1, 1, -5);
        x.empties(2, 2, -7);
        x.leg(10, 1);
        x.leg(20, 3);
        x.change(1, 0);
        Check.write(x, "A>C:");
        return x;
    }

    /** Eight yards, with as many of everything as there may be, and no text of a block on the page. */
    static WagonWays full() {
        WagonWays x = Check.withBlocks(8, "A>B:H", "B>C:H", "C>D:H", "D>E:H", "E>F:H", "F>G:H", "G>H:H",
            "H>A:A", "H>B:B", "H>C:C", "H>D:D/9", "H>E:E/1", "A>H:G", "B>H:G", "C>H:G", "D>H:G", "E>A:A", "F>A:A",
            "G>A:A", "A>B:BCDEF");
        for (int t = 0; t < 12; t++) {
            x.train(t, t == 0 ? 19 : -1, 127 - t, 2 * t, 1 + 4 * t, 12);
        }
        for (int w = 0; w < 30; w++) {
            x.wagon(w % 7, 7);
        }
        x.close(0, 0, 0);
        for (int i = 0; i < 10; i++) {
            x.pass(200);
        }
        x.close(0, 0, 99);
        for (int i = 0; i < 16; i++) {
            x.roll(15 - i);
        }
        for (int i = 0; i < 5; i++) {
            x.leg(99 - i, 9 - i);
        }
        x.load(0, 7, 99);
        x.load(7, 3, 99);
        x.tracks(7, 7);
        for (int week = 0; week < 3; week++) {
            x.empties(week, week, 50);
            x.empties(7, week, -50);
        }
        for (int i = 0; i < 20; i++) {
            x.change(3, 0);
        }
        Check.write(x, "H>A:BCDEFG/9 and as many letters as fit.");
        return x;
    }

    /** All that an object answers: first calls that change nothing, then such as show what is set but not told. */
    static long[] tell(WagonWays x) {
        List<Long> told = new ArrayList<>();
        for (int what = 0; what <= 10; what++) {
            told.add((long) x.count(what));
        }
        told.add(x.digest());
        tellLand(x, told);
        tellRow(x, told);
        tellNets(x, told);
        for (int hours = 0; hours < 700; hours += 35) {
            told.add(x.share(hours, 0));
            told.add((long) x.promise(hours + 1));
        }
        for (int c = 0; c < x.count(0); c++) {
            told.add((long) x.change(c, 0));
        }
        told.add((long) x.sorting(0));
        told.add((long) x.rest(0));
        told.add((long) x.price(0, 0));
        told.add((long) x.price(1, 0));
        for (int i = 0; i < 9; i++) {
            // The closed days show in what the trains do.
            told.add((long) x.pass(1 + 24 * i % 200));
            told.add(x.digest());
        }
        told.add((long) x.block());
        told.add((long) x.letters(Check.word("B/3")));
        told.add((long) x.block());
        told.add(x.digest());
        tellNewOnes(x, told);
        return told.stream().mapToLong(Long::longValue).toArray();
    }

    /** What comes now has nothing of what was there ahead of it. */
    private static void tellNewOnes(WagonWays x, List<Long> told) {
        x.blank();
        told.add((long) x.letters(Check.word("A>B:B/9")));
        told.add((long) x.block());
        for (int hour = 0; hour < 3; hour++) {
            told.add((long) x.train(x.count(1) - 1, -1, 127, hour, 1, 1));
            told.add((long) x.wagon(0, 1));
            told.add((long) x.wagon(1, 0));
        }
        told.add((long) x.roll(3));
        told.add((long) x.leg(3, 3));
        told.add(x.digest());
        told.add((long) x.pass(26));
        told.add(x.digest());
    }

    private static void tellLand(WagonWays x, List<Long> told) {
        int n = x.count(0);
        told.add((long) x.good());
        told.add((long) x.lost());
        for (int a = 0; a < n; a++) {
            told.add((long) x.yard(a, 0));
            told.add((long) x.yard(a, 1));
            for (int d = 0; d < n; d++) {
                told.add((long) x.far(a, d));
                told.add((long) x.goes(a, d));
            }
            told.add((long) x.way(a, n - 1, 1));
        }
        for (int what = 0; what < 3; what++) {
            told.add((long) x.crews(what));
        }
    }

    private static void tellRow(WagonWays x, List<Long> told) {
        int steps = x.steps(2);
        told.add((long) steps);
        for (int i = 0; i < x.count(7); i++) {
            told.add((long) x.number(i));
            told.add((long) x.stands(2, steps, i));
        }
    }

    private static void tellNets(WagonWays x, List<Long> told) {
        told.add((long) x.cost(0));
        told.add((long) x.cost(0x01010806L));
        for (int what = 0; what < 3; what++) {
            told.add(x.net(what));
        }
        told.add((long) x.least());
    }
}
