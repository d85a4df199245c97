import java.io.IOException;

/** Part 4 of the terms and promises 28 to 34: each sentence that names a boundary, at it and beside it. */
public final class NetsBoundsTest {
    private static final int NONE = -1, UNKNOWN = -101, OUTSIDE = -102, STATE = -103;
    private static final Check check = new Check("NetsBoundsTest");

    public static void main(String[] args) throws IOException {
        check.reads(args);
        loads();
        tracksTaken();
        tracksBind();
        prices();
        netBits();
        costLeastAndGreatest();
        costOfHandling();
        costWithoutAWay();
        bestUpToFour();
        bestNone();
        bestOfLikeOnes();
        bound();
        emptiesTaken();
        leastLeast();
        leastJustEnough();
        leastByWeeks();
        leastByShortestWay();
        leastGreatest();
        leastAllOverOrWanted();
        check.end();
    }

    private static long bit(int a, int b) {
        return 1L << 8 * a + b;
    }

    private static WagonWays land(int n) {
        WagonWays x = new WagonWays();
        x.land(n);
        return x;
    }

    private static void loads() {
        check.says("LOADS: so many wagons a day from a to d (0 to 99; 0 at first).");
        for (int n = 2; n <= 8; n++) {
            WagonWays x = land(n);
            for (int a = 0; a < n; a++) {
                for (int d = 0; d < n; d++) {
                    check.due("load at first", x.load(a, d, 8 * a + d), a == d ? UNKNOWN : 0);
                }
            }
            for (int a = 0; a < n; a++) {
                for (int d = 0; d < n; d++) {
                    check.due("load from " + a + " to " + d, x.load(a, d, 0), a == d ? UNKNOWN : 8 * a + d);
                }
            }
            check.due("behind the last", x.load(0, n, 1), UNKNOWN);
            check.due("behind the last, from", x.load(n, 0, 1), UNKNOWN);
        }
        WagonWays x = land(2);
        check.due("load 99", x.load(0, 1, 99), 0);
        check.due("load 100", x.load(0, 1, 100), OUTSIDE);
        check.due("load -1", x.load(0, 1, -1), OUTSIDE);
        check.due("load 0", x.load(0, 1, 0), 99);
        check.due("load 0 again", x.load(0, 1, 0), 0);
        check.due("the other way", x.load(1, 0, 1), 0);
    }

    private static void tracksTaken() {
        check.says("at most as many as it has TRACKS (0 to 7; 2 at first).");
        for (int n = 2; n <= 8; n++) {
            WagonWays x = land(n);
            for (int y = 0; y < n; y++) {
                check.due("tracks at first", x.tracks(y, 7), 2);
                check.due("tracks 8", x.tracks(y, 8), OUTSIDE);
                check.due("tracks -1", x.tracks(y, -1), OUTSIDE);
                check.due("tracks 0", x.tracks(y, 0), 7);
            }
            for (int y = 0; y < n; y++) {
                check.due("tracks of each", x.tracks(y, y), 0);
            }
            check.due("behind the last", x.tracks(n, 1), UNKNOWN);
            check.due("ahead of the first", x.tracks(-1, 1), UNKNOWN);
        }
    }

    private static void tracksBind() {
        for (int tracks = 0; tracks <= 7; tracks++) {
            for (int y = 0; y < 8; y++) {
                WagonWays x = land(8);
                x.tracks(y, tracks);
                long net = 0;
                int made = 0;
                for (int b = 0; b < 8; b++) {
                    if (b != y) {
                        net |= bit(y, b);
                        made++;
                        check.due(made + " of " + tracks + " at " + y, x.cost(net), made <= tracks ? 0 : OUTSIDE);
                    }
                }
            }
        }
        WagonWays x = land(8);
        check.due("two at first", x.cost(bit(7, 0) | bit(7, 6)), 0);
        check.due("three at first", x.cost(bit(7, 0) | bit(7, 6) | bit(7, 1)), OUTSIDE);
        check.due("two each", x.cost(bit(0, 1) | bit(0, 2) | bit(1, 0) | bit(1, 2) | bit(7, 0) | bit(7, 1)), 0);
    }

    private static void prices() {
        check.says("HANDLING (0 to 99; 20 at first) at each YARD between");
        check.due("handling at first", new WagonWays().price(0, 0), 20);
        check.says("stay for the next week for a STAY (0 to 99; 5 at first).");
        check.due("stay at first", new WagonWays().price(1, 0), 5);
        check.says("HANDLING (which = 0), STAY (1) becomes v: what it was. UNKNOWN: which; OUTSIDE.");
        WagonWays x = new WagonWays();
        for (int which = 0; which <= 1; which++) {
            int first = which == 0 ? 20 : 5;
            check.due("99", x.price(which, 99), first);
            check.due("100", x.price(which, 100), OUTSIDE);
            check.due("-1", x.price(which, -1), OUTSIDE);
            check.due("0", x.price(which, 0), 99);
            check.due("0 again", x.price(which, 7), 0);
        }
        check.due("the other stays", x.price(0, 7), 7);
        check.due("which -1", x.price(-1, 5), UNKNOWN);
        check.due("which 2", x.price(2, 5), UNKNOWN);
        check.due("which 2, outside too", x.price(2, 100), UNKNOWN);
    }

    private static void netBits() {
        check.says("THE COST of a NET, told as bits; NONE: some LOAD has no way. "
            + "OUTSIDE: a BLOCK is not from a YARD for another one, or some YARD makes more than it has TRACKS.");
        for (int n = 2; n <= 8; n++) {
            WagonWays x = land(n);
            check.due("the empty net", x.cost(0), 0);
            for (int bit = 0; bit < 64; bit++) {
                int a = bit / 8;
                int b = bit % 8;
                check.due("bit " + bit + " of " + n, x.cost(1L << bit), a < n && b < n && a != b ? 0 : OUTSIDE);
            }
            check.due("all bits of " + n, x.cost(-1L), OUTSIDE);
            long full = 0;
            for (int a = 0; a < n; a++) {
                x.tracks(a, n - 1);
                for (int b = 0; b < n; b++) {
                    full |= a == b ? 0 : bit(a, b);
                }
            }
            check.due("the full net of " + n, x.cost(full), 0);
            x.tracks(n - 1, n - 2);
            check.due("the full net, a track less", x.cost(full), OUTSIDE);
        }
    }

    private static void costLeastAndGreatest() {
        check.says("THE COST of a NET: over LOADS, times the least sum of MILES along BLOCKS of the NET");
        WagonWays x = land(8);
        long ring = 0;
        for (int a = 0; a < 8; a++) {
            ring |= bit(a, (a + 1) % 8);
            for (int b = 0; b < 8; b++) {
                x.miles(a, b, 99);
                x.load(a, b, 99);
            }
        }
        x.price(0, 99);
        // From a to the k-th behind it: k times 99 miles and k - 1 times 99 of handling; over k it is 49 times 99.
        check.due("the greatest", x.cost(ring), 8 * 99 * 49 * 99);
        x.price(0, 0);
        check.due("without handling", x.cost(ring), 8 * 99 * 28 * 99);
        WagonWays least = land(2);
        least.miles(0, 1, 1);
        least.load(0, 1, 1);
        check.due("the least", least.cost(bit(0, 1)), 1);
    }

    private static void costOfHandling() {
        for (int between = 0; between <= 6; between++) {
            WagonWays x = land(8);
            long line = 0;
            for (int a = 0; a <= between; a++) {
                line |= bit(a, a + 1);
            }
            x.load(0, between + 1, 3);
            check.due(between + " between", x.cost(line), 3 * (10 * (between + 1) + 20 * between));
            x.price(0, 0);
            check.due(between + " between for nothing", x.cost(line), 30 * (between + 1));
            x.price(0, 99);
            check.due(between + " between, dear", x.cost(line), 3 * (10 * (between + 1) + 99 * between));
        }
        // Direct or over one yard: which one is less turns at like sums.
        for (int direct = 39; direct <= 41; direct++) {
            WagonWays x = land(3);
            x.load(0, 2, 1);
            x.miles(0, 2, direct);
            check.due("direct is " + direct, x.cost(bit(0, 1) | bit(1, 2) | bit(0, 2)), Math.min(40, direct));
        }
    }

    private static void costWithoutAWay() {
        check.says("there is none, if some LOAD has no way.");
        WagonWays x = land(3);
        check.due("no loads, no blocks", x.cost(0), 0);
        x.load(0, 2, 1);
        check.due("no blocks", x.cost(0), NONE);
        check.due("a beginning", x.cost(bit(0, 1)), NONE);
        check.due("an end", x.cost(bit(1, 2)), NONE);
        check.due("the other way", x.cost(bit(2, 0)), NONE);
        check.due("a way", x.cost(bit(0, 2)), 10);
        x.load(1, 0, 1);
        check.due("one of two has none", x.cost(bit(0, 2)), NONE);
        check.due("both have one", x.cost(bit(0, 2) | bit(1, 0)), 20);
        x.load(1, 0, 0);
        check.due("a load of 0 needs none", x.cost(bit(0, 2)), 10);
        check.due("outside ahead of none", x.cost(bit(0, 0)), OUTSIDE);
        x.tracks(1, 0);
        check.due("outside by tracks ahead of none", x.cost(bit(1, 0)), OUTSIDE);
    }

    private static void bestUpToFour() {
        check.says("THE BEST NET (n up to 4): of least COST");
        for (int n = 2; n <= 8; n++) {
            WagonWays x = land(n);
            x.load(0, n - 1, 2);
            check.due("cost of " + n, x.net(0), n <= 4 ? 20 : STATE);
            check.due("bits of " + n, x.net(1), n <= 4 ? bit(0, n - 1) : STATE);
            check.due("bound of " + n, x.net(2), 20);
            check.due("net(-1) of " + n, x.net(-1), OUTSIDE);
            check.due("net(3) of " + n, x.net(3), OUTSIDE);
        }
        WagonWays full = land(4);
        for (int a = 0; a < 4; a++) {
            full.tracks(a, 3);
            for (int d = 0; d < 4; d++) {
                full.load(a, d, 99);
            }
        }
        check.due("all blocks, cost", full.net(0), 12 * 990);
        check.due("all blocks", full.net(1), 0x070B0D0EL);
        full.tracks(3, 7);
        full.tracks(0, 7);
        check.due("more tracks than yards", full.net(1), 0x070B0D0EL);
    }

    private static void bestNone() {
        check.says("NONE: there is none (0, 1). OUTSIDE: what; STATE: n is above 4 (for 0, 1).");
        for (int n = 2; n <= 4; n++) {
            WagonWays x = land(n);
            check.due("no loads, cost", x.net(0), 0);
            check.due("no loads, bits", x.net(1), 0);
            check.due("no loads, bound", x.net(2), 0);
            x.load(n - 1, 0, 1);
            x.tracks(n - 1, 0);
            check.due("no track, cost", x.net(0), NONE);
            check.due("no track, bits", x.net(1), NONE);
            check.due("no track, bound", x.net(2), 10);
            x.tracks(n - 1, 1);
            check.due("a track, cost", x.net(0), 10);
            check.due("a track, bits", x.net(1), bit(n - 1, 0));
        }
    }

    private static void bestOfLikeOnes() {
        check.says("of like ones of fewest BLOCKS, of like ones the least as a number (bit 8 a and b: from a for b).");
        for (int direct = 19; direct <= 21; direct++) {
            WagonWays x = land(4);
            x.price(0, 0);
            x.load(1, 2, 1);
            x.miles(1, 2, direct);
            // Over A or over D it is 20 with two blocks; direct it is one block.
            check.due("cost, direct is " + direct, x.net(0), Math.min(20, direct));
            check.due("bits, direct is " + direct, x.net(1), direct <= 20 ? bit(1, 2) : bit(0, 2) | bit(1, 0));
        }
        WagonWays x = land(4);
        x.price(0, 0);
        x.load(0, 1, 1);
        x.miles(0, 1, 21);
        // A for C and C for B has the bits 2 and 17, A for D and D for B the bits 3 and 25.
        check.due("the least as a number", x.net(1), bit(0, 2) | bit(2, 1));
        x.miles(2, 1, 11);
        check.due("of least cost all the same", x.net(1), bit(0, 3) | bit(3, 1));
        WagonWays back = land(4);
        back.price(0, 0);
        back.load(3, 0, 1);
        back.miles(3, 0, 21);
        // D for B and B for A, or D for C and C for A: the bits are 25 and 8, or 26 and 16.
        check.due("the highest bits count first", back.net(1), bit(3, 1) | bit(1, 0));
    }

    private static void bound() {
        check.says("THE BOUND: the COST, if each YARD made BLOCKS for all others.");
        for (int n = 2; n <= 8; n++) {
            WagonWays x = land(n);
            for (int a = 0; a < n; a++) {
                x.tracks(a, 0);
                for (int d = 0; d < n; d++) {
                    x.load(a, d, 99);
                    x.miles(a, d, 99);
                }
            }
            check.due("the greatest of " + n, x.net(2), (long) n * (n - 1) * 99 * 99);
        }
        for (int handling = 78; handling <= 80; handling++) {
            WagonWays x = land(5);
            x.price(0, handling);
            x.miles(0, 4, 99);
            x.load(0, 4, 1);
            check.due("handling " + handling, x.net(2), Math.min(99, 20 + handling));
        }
    }

    private static void emptiesTaken() {
        check.says("of each YARD in weeks 0 to 2 so many are over (above 0) or wanted (below 0; -50 to 50; 0 at first).");
        for (int n = 2; n <= 8; n++) {
            WagonWays x = land(n);
            for (int y = 0; y < n; y++) {
                for (int week = 0; week < 3; week++) {
                    check.due("at first", x.empties(y, week, 3 * y + week - 11), 0);
                }
            }
            for (int y = 0; y < n; y++) {
                for (int week = 0; week < 3; week++) {
                    check.due("of its own", x.empties(y, week, 0), 3 * y + week - 11);
                }
                check.due("week -1", x.empties(y, -1, 0), -1000);
                check.due("week 3", x.empties(y, 3, 0), -1000);
            }
            check.due("behind the last yard", x.empties(n, 0, 0), -1000);
            check.due("ahead of the first yard", x.empties(-1, 2, 0), -1000);
        }
        check.says("What is over or wanted of EMPTIES becomes v: what it was; -1000: UNKNOWN: yard, week, -1001: OUTSIDE.");
        WagonWays x = land(2);
        check.due("50", x.empties(1, 2, 50), 0);
        check.due("51", x.empties(1, 2, 51), -1001);
        check.due("-51", x.empties(1, 2, -51), -1001);
        check.due("-50", x.empties(1, 2, -50), 50);
        check.due("was -50", x.empties(1, 2, 0), -50);
        check.due("unknown and outside", x.empties(2, 2, 51), -1000);
        check.due("unknown week and outside", x.empties(1, 3, -51), -1000);
    }

    private static void leastLeast() {
        check.says("THE LEAST MILES: the least paid, so that all that is wanted comes; NONE: it cannot.");
        for (int n = 2; n <= 8; n++) {
            WagonWays x = land(n);
            check.due("nothing over or wanted", x.least(), 0);
            x.empties(0, 0, 50);
            check.due("over alone", x.least(), 0);
            x.empties(0, 0, 0);
            x.empties(n - 1, 2, -1);
            check.due("wanted alone", x.least(), NONE);
            x.empties(0, 2, 1);
            check.due("one for one", x.least(), 10);
            x.miles(0, n - 1, 1);
            check.due("by a mile", x.least(), 1);
        }
        WagonWays x = land(2);
        x.empties(0, 0, 1);
        x.empties(0, 1, -1);
        x.price(1, 0);
        check.due("a stay for nothing", x.least(), 0);
        x.price(1, 99);
        check.due("a dear stay", x.least(), 99);
    }

    private static void leastJustEnough() {
        for (int wanted = 49; wanted <= 50; wanted++) {
            for (int over = 48; over <= 50; over++) {
                WagonWays x = land(2);
                x.empties(0, 0, over);
                x.empties(1, 0, -wanted);
                check.due(over + " over, " + wanted + " wanted", x.least(), over < wanted ? NONE : 10 * wanted);
            }
        }
        WagonWays x = land(3);
        x.empties(0, 0, 25);
        x.empties(1, 0, 24);
        x.empties(2, 0, -50);
        check.due("one too few of two", x.least(), NONE);
        x.empties(1, 0, 25);
        check.due("just enough of two", x.least(), 500);
        x.empties(1, 0, 50);
        x.miles(0, 2, 11);
        check.due("the nearer ones alone", x.least(), 500);
        x.empties(1, 0, 49);
        check.due("one of the farther ones", x.least(), 501);
    }

    private static void leastByWeeks() {
        check.says("One that is over may go, that week, by MILES (as the shortest way over YARDS is) to another YARD, or stay for the next week");
        for (int given = 0; given < 3; given++) {
            for (int taken = 0; taken < 3; taken++) {
                WagonWays x = land(2);
                x.empties(0, given, 3);
                x.empties(1, taken, -3);
                int weeks = taken - given;
                check.due("week " + given + " for " + taken, x.least(), weeks < 0 ? NONE : 3 * (10 + 5 * weeks));
            }
        }
        WagonWays x = land(2);
        x.empties(0, 0, 2);
        x.empties(0, 2, 50);
        x.empties(1, 1, -2);
        check.due("the early ones go", x.least(), 30);
        x.empties(1, 1, -3);
        check.due("the late ones cannot", x.least(), NONE);
        x.empties(1, 1, -1);
        x.empties(1, 2, -2);
        check.due("the late ones for the late", x.least(), 15 + 20);
        WagonWays y = land(3);
        y.miles(0, 1, 1);
        y.miles(0, 2, 50);
        y.miles(1, 2, 50);
        y.empties(0, 0, 1);
        y.empties(2, 1, 1);
        y.empties(1, 1, -1);
        check.due("a stay is less than far", y.least(), 6);
        y.empties(1, 0, -1);
        check.due("far, as none is left", y.least(), 1 + 50);
    }

    private static void leastByShortestWay() {
        for (int direct = 19; direct <= 21; direct++) {
            WagonWays x = land(3);
            x.miles(0, 2, direct);
            x.empties(0, 1, 7);
            x.empties(2, 1, -7);
            check.due("direct is " + direct, x.least(), 7 * Math.min(20, direct));
        }
        WagonWays x = land(8);
        for (int a = 0; a < 8; a++) {
            for (int b = 0; b < 8; b++) {
                x.miles(a, b, b == a + 1 || a == b + 1 ? 1 : 99);
            }
        }
        x.empties(0, 0, 1);
        x.empties(7, 0, -1);
        check.due("over all others", x.least(), 7);
    }

    private static void leastGreatest() {
        WagonWays x = land(2);
        x.miles(0, 1, 99);
        x.price(1, 99);
        x.empties(0, 0, 50);
        x.empties(1, 2, -50);
        check.due("two weeks and far", x.least(), 50 * (99 + 2 * 99));
        WagonWays all = land(8);
        for (int a = 0; a < 8; a++) {
            for (int b = 0; b < 8; b++) {
                all.miles(a, b, 99);
            }
            for (int week = 0; week < 3; week++) {
                all.empties(a, week, a < 4 ? 50 : -50);
            }
        }
        check.due("twelve times fifty, far", all.least(), 600 * 99);
        all.empties(0, 0, 49);
        check.due("one too few", all.least(), NONE);
        all.empties(7, 0, -49);
        check.due("one fewer wanted", all.least(), 599 * 99);
        // What the first week lacks, a later one cannot give.
        all.empties(0, 0, 48);
        all.empties(0, 1, 50);
        all.empties(7, 2, -48);
        check.due("too few in the first week", all.least(), NONE);
        WagonWays most = land(8);
        most.price(1, 99);
        for (int a = 0; a < 8; a++) {
            for (int b = 0; b < 8; b++) {
                most.miles(a, b, 99);
            }
            most.empties(a, a < 4 ? 0 : 2, a < 4 ? 50 : -50);
        }
        check.due("the dearest", most.least(), 200 * 297);
    }

    /** Every yard in every week: all over, all wanted, all but one over, all but one wanted. */
    private static void leastAllOverOrWanted() {
        for (int n = 2; n <= 8; n++) {
            WagonWays x = land(n);
            fill(x, n, 50);
            check.due("all over", x.least(), 0);
            x.empties(n - 1, 2, -50);
            check.due("all over but one", x.least(), 250);
            fill(x, n, -50);
            check.due("all wanted", x.least(), NONE);
            fill(x, n, -1);
            x.empties(0, 0, 50);
            // The others of week 0 by 10, the yard itself by 5 and 10, the others by 15 and 20.
            check.due("all wanted but one", x.least(), (n - 1) * 10 + 15 + (n - 1) * 35);
            x.empties(0, 0, 3 * n - 1);
            check.due("just enough for all", x.least(), (n - 1) * 45 + 15);
            x.empties(0, 0, 3 * n - 2);
            check.due("one too few for all", x.least(), NONE);
        }
    }

    private static void fill(WagonWays x, int n, int v) {
        for (int y = 0; y < n; y++) {
            for (int week = 0; week < 3; week++) {
                x.empties(y, week, v);
            }
        }
    }
}
