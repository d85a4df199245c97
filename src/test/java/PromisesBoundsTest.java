import java.io.IOException;
import java.math.BigInteger;

/** Part 5 of the terms and promises 35 to 39: each sentence that names a boundary, at it and beside it. */
public final class PromisesBoundsTest {
    private static final int NONE = -1, UNKNOWN = -101, OUTSIDE = -102, STATE = -103, FULL = -104;
    private static final Check check = new Check("PromisesBoundsTest");

    public static void main(String[] args) throws IOException {
        check.reads(args);
        legs();
        stayEmptyAndFull();
        shareWithoutLegs();
        shareOfOneLeg();
        shareOfFiveLegs();
        shareInLowestTerms();
        shareHours();
        promiseJustReached();
        promiseLeastAndGreatest();
        changedFor();
        changeNone();
        changeLoads();
        changeUpToFour();
        changeFewest();
        changeFirstStays();
        changeLesserYard();
        changeThenTheSecond();
        changeTellsBlocks();
        changeTwentyTimes();
        check.end();
    }

    private static void legs() {
        check.says("a wagon runs 1 to 5 LEGS, each of so many HOURS (1 to 99), MISSED by so many tenths (0 to 9)");
        WagonWays x = new WagonWays();
        check.due("leg(0, 0)", x.leg(0, 0), OUTSIDE);
        check.due("leg(100, 0)", x.leg(100, 0), OUTSIDE);
        check.due("leg(1, -1)", x.leg(1, -1), OUTSIDE);
        check.due("leg(1, 10)", x.leg(1, 10), OUTSIDE);
        check.due("no leg yet", x.count(8), 0);
        check.due("leg(1, 0)", x.leg(1, 0), 1);
        check.due("one hour", x.promise(999), 1);
        check.due("leg(99, 0)", x.leg(99, 0), 2);
        check.due("a hundred hours", x.promise(999), 100);
        check.due("leg(1, 9)", x.leg(1, 9), 3);
        check.due("a tenth is in time", x.share(101, 1), 10);
        check.due("leg(99, 9)", x.leg(99, 9), 4);
        check.due("leg(50, 5)", x.leg(50, 5), 5);
        check.due("a sixth", x.leg(1, 0), FULL);
        check.due("a sixth, outside too", x.leg(100, 0), OUTSIDE);
        check.due("a sixth, outside by tenths too", x.leg(1, 10), OUTSIDE);
        check.due("five legs", x.count(8), 5);
    }

    private static void stayEmptyAndFull() {
        check.says("No LEGS: how many there were.");
        WagonWays x = new WagonWays();
        check.due("of none", x.stay(), 0);
        for (int i = 1; i <= 5; i++) {
            check.due("leg", x.leg(9, 9), i);
        }
        check.due("of five", x.stay(), 5);
        check.due("again", x.stay(), 0);
        check.due("legs", x.count(8), 0);
        check.due("room again", x.leg(3, 0), 1);
        check.due("the new one alone", x.promise(999), 3);
    }

    private static void shareIs(WagonWays x, String when, int hours, BigInteger above, BigInteger below) {
        BigInteger divisor = above.gcd(below);
        check.due("share(" + hours + ", 0) " + when, x.share(hours, 0), above.divide(divisor).longValueExact());
        check.due("share(" + hours + ", 1) " + when, x.share(hours, 1), below.divide(divisor).longValueExact());
    }

    private static void shareWithoutLegs() {
        check.says("THE SHARE in time, by so many HOURS (0 to 999), in lowest terms: part 0 above, 1 below. OUTSIDE (as -102).");
        WagonWays x = new WagonWays();
        shareIs(x, "no legs", 0, BigInteger.ONE, BigInteger.ONE);
        shareIs(x, "no legs", 999, BigInteger.ONE, BigInteger.ONE);
        x.leg(1, 0);
        shareIs(x, "one leg of an hour", 0, BigInteger.ZERO, BigInteger.ONE);
        shareIs(x, "one leg of an hour", 1, BigInteger.ONE, BigInteger.ONE);
    }

    /** In time with m misses at most: 1 less the chance of m + 1 misses in a row. */
    private static void shareOfOneLeg() {
        check.says("each time it is missed, it waits 24 HOURS more, and may be missed again.");
        for (int tenths = 0; tenths <= 9; tenths++) {
            for (int hours : new int[] {1, 50, 99}) {
                WagonWays x = new WagonWays();
                x.leg(hours, tenths);
                shareIs(x, "too soon", hours - 1, BigInteger.ZERO, BigInteger.ONE);
                for (int misses = 0; misses <= 7; misses++) {
                    int looked = Math.min(5, misses);
                    BigInteger below = BigInteger.TEN.pow(looked + 1);
                    BigInteger above = below.subtract(BigInteger.valueOf(tenths).pow(looked + 1));
                    shareIs(x, misses + " misses by " + tenths, hours + 24 * misses, above, below);
                    shareIs(x, misses + " misses and 23 hours", hours + 24 * misses + 23, above, below);
                }
            }
        }
        check.says("THE SHARE in time: the chance that all takes at most so many HOURS (at most 5 MISSES are looked at: more are never in time).");
        WagonWays x = new WagonWays();
        x.leg(1, 5);
        shareIs(x, "four misses", 120, BigInteger.valueOf(31), BigInteger.valueOf(32));
        shareIs(x, "five misses", 121, BigInteger.valueOf(63), BigInteger.valueOf(64));
        shareIs(x, "six are never in time", 145, BigInteger.valueOf(63), BigInteger.valueOf(64));
        shareIs(x, "nor are forty", 999, BigInteger.valueOf(63), BigInteger.valueOf(64));
    }

    /** Five legs missed alike: m misses are shared among them in (m + 4 over 4) ways. */
    private static void shareOfFiveLegs() {
        int[] ways = {1, 5, 15, 35, 70, 126};
        for (int tenths = 0; tenths <= 9; tenths++) {
            WagonWays x = new WagonWays();
            for (int i = 0; i < 5; i++) {
                x.leg(99, tenths);
            }
            shareIs(x, "too soon", 494, BigInteger.ZERO, BigInteger.ONE);
            BigInteger below = BigInteger.TEN.pow(10);
            BigInteger above = BigInteger.ZERO;
            for (int misses = 0; misses <= 5; misses++) {
                BigInteger hit = BigInteger.valueOf(10 - tenths).pow(5);
                BigInteger missed = BigInteger.valueOf(tenths).pow(misses).multiply(BigInteger.TEN.pow(5 - misses));
                above = above.add(hit.multiply(missed).multiply(BigInteger.valueOf(ways[misses])));
                shareIs(x, misses + " misses by " + tenths, 495 + 24 * misses, above, below);
                shareIs(x, misses + " misses and 23 hours", 495 + 24 * misses + 23, above, below);
            }
            shareIs(x, "six misses by " + tenths, 495 + 144, above, below);
            shareIs(x, "the greatest hours by " + tenths, 999, above, below);
        }
    }

    private static void shareInLowestTerms() {
        WagonWays x = new WagonWays();
        x.leg(10, 0);
        check.due("never missed, above", x.share(10, 0), 1);
        check.due("never missed, below", x.share(10, 1), 1);
        check.due("never in time, above", x.share(9, 0), 0);
        check.due("never in time, below", x.share(9, 1), 1);
        x.leg(10, 2);
        check.due("eight tenths, above", x.share(20, 0), 4);
        check.due("eight tenths, below", x.share(20, 1), 5);
        WagonWays nines = new WagonWays();
        for (int tenths : new int[] {9, 9, 9, 9, 7}) {
            nines.leg(1, tenths);
        }
        // 3 x (10^5 + 43 x 10^4 + ..) over 10^10 is odd above: nothing can be taken out but fives.
        check.isTrue("above the greatest int", nines.share(999, 1) > Integer.MAX_VALUE);
    }

    private static void shareHours() {
        WagonWays x = new WagonWays();
        x.leg(99, 3);
        check.due("hours -1", x.share(-1, 0), OUTSIDE);
        check.due("hours 0", x.share(0, 0), 0);
        check.due("hours 999", x.share(999, 1), 1000000);
        check.due("hours 1000", x.share(1000, 0), OUTSIDE);
        check.due("part -1", x.share(99, -1), OUTSIDE);
        check.due("part 0", x.share(99, 0), 7);
        check.due("part 1", x.share(99, 1), 10);
        check.due("part 2", x.share(99, 2), OUTSIDE);
    }

    private static void promiseIs(WagonWays x, int[][] want) {
        for (int[] w : want) {
            check.due("promise(" + w[0] + ")", x.promise(w[0]), w[1]);
        }
    }

    private static void promiseJustReached() {
        check.says("The least HOURS by which THE SHARE is at least p thousandths (1 to 999); NONE: none does (by 5 MISSES at most). OUTSIDE.");
        WagonWays half = new WagonWays();
        half.leg(10, 5);
        promiseIs(half, new int[][] {{1, 10}, {500, 10}, {501, 34}, {750, 34}, {751, 58}, {875, 58}, {876, 82}, {937, 82},
            {938, 106}, {968, 106}, {969, 130}, {984, 130}, {985, NONE}, {999, NONE}});
        WagonWays nine = new WagonWays();
        nine.leg(1, 9);
        promiseIs(nine, new int[][] {{1, 1}, {100, 1}, {101, 25}, {190, 25}, {191, 49}, {271, 49}, {272, 73}, {343, 73},
            {344, 97}, {409, 97}, {410, 121}, {468, 121}, {469, NONE}, {999, NONE}});
        WagonWays one = new WagonWays();
        one.leg(99, 1);
        // 9/10, 99/100, 999/1000: three nines are reached just so.
        promiseIs(one, new int[][] {{900, 99}, {901, 123}, {990, 123}, {991, 147}, {999, 147}});
        WagonWays five = new WagonWays();
        for (int i = 0; i < 5; i++) {
            five.leg(99, 9);
        }
        // By five misses it is a little above 1.6 thousandths, by four below 0.9.
        promiseIs(five, new int[][] {{1, 615}, {2, NONE}, {999, NONE}});
    }

    private static void promiseLeastAndGreatest() {
        WagonWays x = new WagonWays();
        check.due("promise(0)", x.promise(0), OUTSIDE);
        check.due("promise(1000)", x.promise(1000), OUTSIDE);
        check.due("promise(1) without legs", x.promise(1), 0);
        check.due("promise(999) without legs", x.promise(999), 0);
        for (int legs = 1; legs <= 5; legs++) {
            x.leg(99, 0);
            check.due("promise(1), never missed", x.promise(1), 99 * legs);
            check.due("promise(999), never missed", x.promise(999), 99 * legs);
        }
    }

    /** What change tells: how many are changed, then for which yard each block is made. */
    private static void changeIs(WagonWays x, String when, int c, int... want) {
        check.due("change(" + c + ", 0) " + when, x.change(c, 0), want[0]);
        for (int i = 1; i < want.length; i++) {
            check.due("change(" + c + ", " + (9 + i) + ") " + when, x.change(c, 9 + i), want[i]);
        }
    }

    private static void changedFor() {
        check.says("one that is made for c is made for another YARD instead (not c, nor the YARD that it is made at).");
        WagonWays two = Check.withBlocks(2, "A>B:B", "B>A:A");
        two.load(0, 1, 1);
        two.load(1, 0, 1);
        changeIs(two, "of two yards", 1, 0, 1, 0, NONE);
        WagonWays three = Check.withBlocks(3, "A>B:C");
        three.load(0, 2, 1);
        changeIs(three, "one yard is left", 1, 1, 2, NONE);
        // The closed yard is the first, and the yard that it is made at comes ahead of the one that does.
        WagonWays first = Check.withBlocks(3, "B>A:C");
        first.load(1, 2, 1);
        changeIs(first, "not the closed one, nor its own", 0, 1, 2, NONE);
        WagonWays last = Check.withBlocks(3, "B>C:A");
        last.load(1, 0, 1);
        changeIs(last, "the first yard", 2, 1, 0, NONE);
        check.due("nothing is changed by asking", last.about(0, 1), 2);
        check.due("nor is the way", last.way(1, 0, 0), NONE);
    }

    private static void changeNone() {
        check.says("NONE: there is no such choice.");
        WagonWays x = Check.withBlocks(3, "A>B:B");
        x.load(0, 2, 1);
        changeIs(x, "no block takes it", 1, NONE, NONE, NONE);
        check.due("the last", x.change(1, 29), NONE);
        check.due("done all the same", x.count(10), 4);
        WagonWays other = Check.withBlocks(4, "A>B:C", "D>A:C");
        other.load(0, 2, 1);
        other.load(3, 2, 1);
        changeIs(other, "both come", 1, 1, 2, 0, NONE);
        other.load(1, 2, 1);
        changeIs(other, "loads of the closed yard need none", 1, 1, 2);
        other.load(2, 0, 1);
        changeIs(other, "one of three has none", 1, NONE, NONE, NONE);
    }

    private static void changeLoads() {
        check.says("those with which for all LOADS above 0 between YARDS but c there is a WAY that does not come to c");
        WagonWays x = Check.withBlocks(4, "A>B:D", "B>D:D");
        changeIs(x, "no loads", 1, 0, 1, 3, NONE);
        x.load(0, 3, 1);
        changeIs(x, "a load of 1", 1, 1, 3, 3, NONE);
        x.load(0, 3, 99);
        changeIs(x, "a load of 99", 1, 1, 3);
        x.load(0, 3, 0);
        changeIs(x, "a load of 0", 1, 0, 1);
        x.load(0, 1, 5);
        x.load(1, 3, 5);
        changeIs(x, "for it and from it", 1, 0, 1);
        // A way that comes to c further on; the block that leads there is another yard's.
        WagonWays on = Check.withBlocks(4, "A>C:D", "C>B:D", "B>D:D");
        on.load(0, 3, 1);
        changeIs(on, "it comes to c on the way", 1, 1, 2, 3, 3, NONE);
        // No way of the loads comes to c, and nothing is to be changed.
        changeIs(on, "it does not come to c", 0, 0, 2, 1, 3);
    }

    private static void changeUpToFour() {
        check.says("STATE: more than 4 BLOCKS are made for c, or it was done 20 times.");
        WagonWays x = Check.withBlocks(6, "A>E:B", "B>E:C", "C>E:D", "D>E:A", "E>F:F");
        x.load(0, 1, 1);
        x.load(1, 2, 1);
        x.load(2, 3, 1);
        x.load(3, 0, 1);
        changeIs(x, "four of four", 4, 4, 1, 2, 3, 0, 5, NONE);
        Check.block(x, "F>E:A");
        check.due("five", x.change(4, 0), STATE);
        check.due("five, of a block", x.change(4, 10), STATE);
        check.due("of another yard", x.change(5, 0), NONE);
        check.due("done", x.count(10), 8);
        WagonWays full = new WagonWays();
        for (int i = 0; i < 20; i++) {
            Check.block(full, i < 4 ? "A>B:B" : "B>A:A");
        }
        check.due("four of twenty", full.change(1, 0), 0);
        check.due("sixteen of twenty", full.change(0, 0), STATE);
        check.due("none of twenty", full.change(2, 0), 0);
    }

    /** Eight yards, as many choices as there can be: 7 to the 4. */
    private static void changeFewest() {
        check.says("the one with fewest CHANGED");
        WagonWays x = Check.withBlocks(8, "A>H:B", "C>H:B", "D>H:B", "E>H:B", "F>B:B", "G>F:B");
        changeIs(x, "none", 7, 0, 7, 7, 7, 7);
        x.load(3, 1, 1);
        changeIs(x, "the third alone", 7, 1, 7, 7, 1, 7, 1, 5);
        x.load(4, 1, 1);
        // E's block may be made for D or F too, as they send on to B; B is the lesser yard.
        changeIs(x, "two", 7, 2, 7, 7, 1, 1, 1, 5);
    }

    /** A sends over a hub, B or C, whose own block for D must be changed then too. */
    private static WagonWays hubs(String... texts) {
        WagonWays x = Check.withBlocks(6, texts);
        x.load(0, 3, 1);
        x.load(0, 5, 1);
        return x;
    }

    private static void changeFirstStays() {
        check.says("of like ones, by BLOCKS' numbers, the one whose first BLOCK (that is made for c) stays rather than is changed, "
            + "or is made for the lesser YARD; then the second, and so on.");
        // Over B blocks 0 and 1 are changed, over C blocks 1 and 2: over C block 0 stays.
        WagonWays x = hubs("B>E:D", "A>E:DF", "C>E:D", "B>F:F", "C>F:F");
        changeIs(x, "the first stays", 4, 2, 4, 2, 3, 5, 5, NONE);
        // With C's block first it is over B.
        WagonWays y = hubs("C>E:D", "A>E:DF", "B>E:D", "B>F:F", "C>F:F");
        changeIs(y, "the first stays, turned", 4, 2, 4, 1, 3, 5, 5, NONE);
    }

    private static void changeLesserYard() {
        // A's block is the first: over B, which is the lesser yard, whichever block is changed then.
        WagonWays x = hubs("A>E:DF", "C>E:D", "B>E:D", "B>F:F", "C>F:F");
        changeIs(x, "the lesser yard", 4, 2, 1, 4, 3, 5, 5, NONE);
        WagonWays direct = Check.withBlocks(4, "B>A:C", "D>C:C");
        direct.load(1, 2, 1);
        changeIs(direct, "direct, as that is the lesser", 0, 1, 2, 2, NONE);
        WagonWays round = Check.withBlocks(4, "B>A:D", "C>D:D");
        round.load(1, 3, 1);
        changeIs(round, "round, as that is the lesser", 0, 1, 2, 3, NONE);
    }

    private static void changeThenTheSecond() {
        WagonWays x = Check.withBlocks(5, "B>A:D", "C>A:E", "D>E:E", "E>D:D");
        x.load(1, 3, 1);
        x.load(2, 4, 1);
        changeIs(x, "each for its lesser yard", 0, 2, 3, 3, 4, 3, NONE);
        // B's block may be made for C, which sends on to D by its own block for D.
        Check.block(x, "C>D:D");
        changeIs(x, "the first for a lesser one", 0, 2, 2, 3, 4, 3, 3);
    }

    private static void changeTellsBlocks() {
        check.says("10 and i for which YARD BLOCK i is made then (as it is, if it stays; NONE: there is no such BLOCK)");
        WagonWays none = new WagonWays();
        check.due("no blocks", none.change(0, 0), 0);
        check.due("no block 0", none.change(0, 10), NONE);
        check.due("no block 19", none.change(0, 29), NONE);
        check.due("what -1", none.change(0, -1), OUTSIDE);
        check.due("what 1", none.change(0, 1), OUTSIDE);
        check.due("what 9", none.change(0, 9), OUTSIDE);
        check.due("what 30", none.change(0, 30), OUTSIDE);
        WagonWays x = new WagonWays();
        for (int i = 0; i < 19; i++) {
            Check.block(x, "A>C:B");
        }
        check.due("block 18", x.change(3, 28), 2);
        check.due("no block 19 yet", x.change(3, 29), NONE);
        Check.block(x, "B>D:A");
        check.due("block 19 stays", x.change(3, 29), 3);
        x.load(1, 0, 1);
        check.due("block 19 is changed", x.change(3, 29), 0);
        check.due("block 0 is another's", x.change(3, 10), 2);
        check.due("behind the last yard", x.change(4, 0), UNKNOWN);
        check.due("ahead of the first yard", x.change(-1, 0), UNKNOWN);
    }

    private static void changeTwentyTimes() {
        check.says("STATE: more than 4 BLOCKS are made for c, or it was done 20 times.");
        WagonWays x = Check.withBlocks(3, "A>B:B", "A>C:C", "A>C:C", "A>C:C", "A>C:C", "A>C:C");
        x.load(0, 2, 1);
        x.load(2, 0, 1);
        for (int i = 0; i < 20; i++) {
            check.due("how often", x.count(10), i);
            check.due("refused, unknown", x.change(3, 0), UNKNOWN);
            check.due("refused, outside", x.change(0, 1), OUTSIDE);
            check.due("refused, state", x.change(2, 0), STATE);
            check.due("done", x.change(i % 2, 0), i % 2 == 0 ? 0 : NONE);
        }
        check.due("how often then", x.count(10), 20);
        check.due("a 21st", x.change(0, 0), STATE);
        check.due("a 21st of a block", x.change(1, 10), STATE);
        check.due("unknown all the same", x.change(3, 0), UNKNOWN);
        check.due("outside all the same", x.change(0, 30), OUTSIDE);
        check.due("how often at last", x.count(10), 20);
        x.land(3);
        check.due("as at first", x.count(10), 0);
        check.due("done anew", x.change(0, 0), 0);
    }
}
