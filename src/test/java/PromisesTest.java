/** Promises 35 to 39: legs, shares, promises and closed yards. */
public final class PromisesTest {
    private static final int LOW = Integer.MIN_VALUE;
    private static final int HIGH = Integer.MAX_VALUE;
    private static final Check check = new Check("PromisesTest");

    public static void main(String[] args) {
        leg();
        stay();
        share();
        promise();
        change();
        changeInOrder();
        changeRefusals();
        changeTwentyTimes();
        check.end();
    }

    private static void leg() {
        WagonWays x = new WagonWays();
        check.due("first", x.leg(1, 0), 1);
        check.due("second", x.leg(99, 9), 2);
        int[][] outside = {{0, 0}, {100, 0}, {-1, 0}, {1, -1}, {1, 10}, {LOW, 0}, {1, HIGH}};
        for (int[] o : outside) {
            check.refused(x, "leg outside", () -> x.leg(o[0], o[1]), WagonWays.OUTSIDE);
        }
        check.due("third", x.leg(5, 5), 3);
        check.due("fourth", x.leg(5, 5), 4);
        check.due("fifth", x.leg(5, 5), 5);
        check.refused(x, "leg full", () -> x.leg(5, 5), WagonWays.FULL);
        check.refused(x, "leg outside ahead of full", () -> x.leg(0, 5), WagonWays.OUTSIDE);
    }

    private static void stay() {
        WagonWays x = new WagonWays();
        check.due("none", x.stay(), 0);
        x.leg(9, 5);
        x.leg(9, 5);
        check.due("two", x.stay(), 2);
        check.due("no legs", x.count(8), 0);
        check.due("a new one", x.leg(7, 0), 1);
        check.due("its share", x.share(7, 0), 1);
        check.due("its hours", x.share(6, 0), 0);
    }

    private static void shareIs(WagonWays x, int hours, long above, long below) {
        check.due("share(" + hours + ", 0)", x.share(hours, 0), above);
        check.due("share(" + hours + ", 1)", x.share(hours, 1), below);
    }

    private static void share() {
        WagonWays x = new WagonWays();
        shareIs(x, 0, 1, 1);
        x.leg(10, 5);
        shareIs(x, 9, 0, 1);
        shareIs(x, 10, 1, 2);
        shareIs(x, 33, 1, 2);
        shareIs(x, 34, 3, 4);
        shareIs(x, 129, 31, 32);
        shareIs(x, 130, 63, 64);
        shareIs(x, 154, 63, 64);
        shareIs(x, 999, 63, 64);
        x.leg(20, 0);
        shareIs(x, 29, 0, 1);
        shareIs(x, 30, 1, 2);
        x.leg(1, 9);
        // Both on time 1/2 x 1/10; with one miss also 1/20 x (5 + 9)/10.
        shareIs(x, 31, 1, 20);
        shareIs(x, 55, 3, 25);
        x.stay();
        for (int i = 0; i < 5; i++) {
            x.leg(99, 9);
        }
        shareIs(x, 494, 0, 1);
        shareIs(x, 495, 1, 100000);
        // Misses m: (m + 4 over 4) x 9^m; 10^5 x .. + .. over 10^10.
        long sum = 0;
        long[] ways = {1, 5, 15, 35, 70, 126};
        long nines = 1;
        for (int m = 0; m <= 5; m++) {
            sum = sum * 10 + ways[m] * nines;
            nines *= 9;
        }
        long divisor = java.math.BigInteger.valueOf(sum).gcd(java.math.BigInteger.valueOf(10000000000L)).longValue();
        shareIs(x, 999, sum / divisor, 10000000000L / divisor);
        shareIs(x, 615, sum / divisor, 10000000000L / divisor);
        for (int hours : new int[] {-1, 1000, LOW, HIGH}) {
            check.refused(x, "share outside", () -> x.share(hours, 0), WagonWays.OUTSIDE);
        }
        for (int part : new int[] {-1, 2, LOW, HIGH}) {
            check.refused(x, "share outside part", () -> x.share(5, part), WagonWays.OUTSIDE);
        }
    }

    private static void promise() {
        WagonWays x = new WagonWays();
        check.due("no legs", x.promise(1), 0);
        x.leg(10, 5);
        check.due("at least", x.promise(500), 10);
        check.due("more", x.promise(501), 34);
        check.due("three quarters", x.promise(750), 34);
        check.due("five misses", x.promise(984), 130);
        check.due("just below", x.promise(985), WagonWays.NONE);
        x.stay();
        x.leg(99, 0);
        x.leg(99, 0);
        check.due("never missed", x.promise(999), 198);
        for (int p : new int[] {0, -1, 1000, LOW, HIGH}) {
            check.refused(x, "promise outside", () -> x.promise(p), WagonWays.OUTSIDE);
        }
    }

    private static void changeTells(WagonWays x, String when, int c, int... want) {
        check.due("change(" + c + ", 0) " + when, x.change(c, 0), want[0]);
        for (int i = 1; i < want.length; i++) {
            check.due("change(" + c + ", " + (9 + i) + ") " + when, x.change(c, 9 + i), want[i]);
        }
    }

    private static void change() {
        WagonWays x = Check.withBlocks(4, "A>B:BCD", "B>C:CD", "C>D:D");
        changeTells(x, "no loads", 1, 0, 1, 2, 3, -1);
        x.load(0, 1, 9);
        x.load(1, 3, 9);
        check.due("loads of the closed yard do not count", x.change(1, 0), 0);
        x.load(0, 3, 1);
        // A's block for B is made for C (the lesser of C and D).
        changeTells(x, "one", 1, 1, 2, 2, 3, -1);
        check.due("nothing is changed by asking", x.about(0, 1), 1);
        x.load(0, 2, 1);
        x.load(3, 2, 1);
        changeTells(x, "none does", 1, -1, -1, -1);
        WagonWays two = Check.withBlocks(2, "A>B:B", "B>A:A");
        two.load(0, 1, 1);
        changeTells(two, "two yards", 1, 0, 1, 0);
    }

    private static void changeInOrder() {
        // B, C and D send over A; all blocks for A are numbered 0, 1, 2.
        WagonWays x = Check.withBlocks(4, "B>A:CD", "C>A:BD", "D>A:BC", "A>B:BCD");
        x.load(1, 2, 1);
        // B's block for C, or for D with D's block for C: fewest is one.
        changeTells(x, "fewest", 0, 1, 2, 0, 0, 1);
        x.load(1, 3, 1);
        // B's block for C goes on only if C's goes for D: two changed; B's for C is the lesser.
        changeTells(x, "the lesser", 0, 2, 2, 3, 0, 1);
        x.load(2, 1, 1);
        // C's block for B would circle for D, for D must go on to B by D's: three; or B's for D, D's for C, C's for B.
        changeTells(x, "three", 0, 3, 2, 3, 1, 1);
        WagonWays first = Check.withBlocks(3, "B>C:A", "B>C:A/1");
        first.load(1, 0, 1);
        changeTells(first, "for the first yard", 2, 1, 0, 2, -1);
        first.load(1, 0, 0);
        first.load(1, 2, 1);
        first.load(2, 0, 1);
        changeTells(first, "loads of the closed one alone", 2, 0, 2, 2, -1);
        // Of two blocks that do, the first stays.
        WagonWays stays = Check.withBlocks(3, "B>A:C", "B>A:C/9");
        stays.load(1, 2, 1);
        check.due("the one that counts", stays.change(0, 10), 0);
        check.due("is changed", stays.change(0, 11), 2);
    }

    private static void changeRefusals() {
        WagonWays x = Check.withBlocks(8, "B>A:C", "C>A:B", "D>A:B", "E>A:B", "H>G:G");
        check.due("four blocks", x.change(0, 0), 0);
        check.due("block 4", x.change(0, 14), 6);
        check.due("no block 5", x.change(0, 15), WagonWays.NONE);
        check.due("no block 19", x.change(0, 29), WagonWays.NONE);
        check.due("done four times", x.count(10), 4);
        for (int c : new int[] {-1, 8, LOW, HIGH}) {
            check.refused(x, "change unknown", () -> x.change(c, 0), WagonWays.UNKNOWN);
            check.refused(x, "change unknown ahead of outside", () -> x.change(c, 1), WagonWays.UNKNOWN);
        }
        for (int what : new int[] {-1, 1, 9, 30, LOW, HIGH}) {
            check.refused(x, "change outside", () -> x.change(0, what), WagonWays.OUTSIDE);
        }
        Check.block(x, "F>A:B");
        check.refused(x, "change state", () -> x.change(0, 0), WagonWays.STATE);
        check.refused(x, "change outside ahead of state", () -> x.change(0, 1), WagonWays.OUTSIDE);
        check.due("of another yard", x.change(1, 0), 0);
        check.due("done five times", x.count(10), 5);
    }

    private static void changeTwentyTimes() {
        WagonWays x = new WagonWays();
        for (int i = 1; i <= 20; i++) {
            check.due("change", x.change(i % 4, i % 2 == 0 ? 0 : 10), i % 2 == 0 ? 0 : WagonWays.NONE);
            check.due("done", x.count(10), i);
        }
        check.refused(x, "done 20 times", () -> x.change(0, 0), WagonWays.STATE);
        check.refused(x, "unknown ahead of state", () -> x.change(4, 0), WagonWays.UNKNOWN);
        check.refused(x, "outside ahead of state", () -> x.change(0, 2), WagonWays.OUTSIDE);
        x.land(4);
        check.due("as at first", x.change(0, 0), 0);
    }
}
