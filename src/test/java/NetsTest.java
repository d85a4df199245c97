/** Promises 28 to 34: loads, nets and empties. */
public final class NetsTest {
    private static final int LOW = Integer.MIN_VALUE;
    private static final int HIGH = Integer.MAX_VALUE;
    private static final Check check = new Check("NetsTest");

    public static void main(String[] args) {
        load();
        tracks();
        price();
        cost();
        costRefusals();
        net();
        netTies();
        netDearButFew();
        netForgetsNothing();
        bound();
        empties();
        least();
        leastChoosesWell();
        leastTakesBack();
        check.end();
    }

    private static long bit(int a, int b) {
        return 1L << 8 * a + b;
    }

    private static void load() {
        WagonWays x = new WagonWays();
        check.due("load", x.load(0, 1, 99), 0);
        check.due("load back is another", x.load(1, 0, 3), 0);
        check.due("load was", x.load(0, 1, 0), 99);
        int[][] unknown = {{-1, 0}, {0, -1}, {4, 0}, {0, 4}, {2, 2}, {LOW, HIGH}};
        for (int[] u : unknown) {
            check.refused(x, "load unknown", () -> x.load(u[0], u[1], 5), WagonWays.UNKNOWN);
            check.refused(x, "load unknown ahead of outside", () -> x.load(u[0], u[1], 100), WagonWays.UNKNOWN);
        }
        for (int v : new int[] {-1, 100, LOW, HIGH}) {
            check.refused(x, "load outside", () -> x.load(0, 1, v), WagonWays.OUTSIDE);
        }
    }

    private static void tracks() {
        WagonWays x = new WagonWays();
        check.due("tracks", x.tracks(0, 7), 2);
        check.due("tracks was", x.tracks(0, 0), 7);
        check.due("tracks of another", x.tracks(3, 1), 2);
        for (int y : new int[] {-1, 4, LOW, HIGH}) {
            check.refused(x, "tracks unknown", () -> x.tracks(y, 1), WagonWays.UNKNOWN);
            check.refused(x, "tracks unknown ahead of outside", () -> x.tracks(y, 8), WagonWays.UNKNOWN);
        }
        for (int v : new int[] {-1, 8, LOW, HIGH}) {
            check.refused(x, "tracks outside", () -> x.tracks(1, v), WagonWays.OUTSIDE);
        }
    }

    private static void price() {
        WagonWays x = new WagonWays();
        check.due("handling", x.price(0, 99), 20);
        check.due("stay", x.price(1, 98), 5);
        for (int which : new int[] {-1, 2, LOW, HIGH}) {
            check.refused(x, "price unknown", () -> x.price(which, 1), WagonWays.UNKNOWN);
            check.refused(x, "price unknown ahead of outside", () -> x.price(which, 100), WagonWays.UNKNOWN);
        }
        for (int v : new int[] {-1, 100, LOW, HIGH}) {
            check.refused(x, "handling outside", () -> x.price(0, v), WagonWays.OUTSIDE);
            check.refused(x, "stay outside", () -> x.price(1, v), WagonWays.OUTSIDE);
        }
        check.due("handling stays", x.price(0, 0), 99);
        check.due("stay stays", x.price(1, 0), 98);
    }

    private static void cost() {
        WagonWays x = new WagonWays();
        check.due("no loads, no blocks", x.cost(0), 0);
        x.load(0, 2, 3);
        check.due("no way", x.cost(bit(0, 1)), WagonWays.NONE);
        check.due("not the other way", x.cost(bit(2, 0)), WagonWays.NONE);
        check.due("direct", x.cost(bit(0, 2)), 30);
        check.due("over one", x.cost(bit(0, 1) | bit(1, 2)), 3 * 40);
        check.due("over two", x.cost(bit(0, 1) | bit(1, 3) | bit(3, 2)), 3 * 70);
        x.miles(0, 2, 41);
        check.due("handled rather than far", x.cost(bit(0, 1) | bit(1, 2) | bit(0, 2)), 3 * 40);
        x.miles(0, 2, 39);
        check.due("far rather than handled", x.cost(bit(0, 1) | bit(1, 2) | bit(0, 2)), 3 * 39);
        x.load(1, 2, 7);
        check.due("over loads", x.cost(bit(0, 1) | bit(1, 2)), 3 * 40 + 70);
        check.due("one without a way", x.cost(bit(0, 2)), WagonWays.NONE);
        x.price(0, 0);
        check.due("handling for nothing", x.cost(bit(0, 1) | bit(1, 2)), 3 * 20 + 70);
    }

    private static void costRefusals() {
        WagonWays x = new WagonWays();
        x.load(0, 1, 1);
        long[] outside = {bit(0, 0), bit(3, 3), bit(0, 4), bit(4, 0), bit(0, 7), bit(7, 6), bit(7, 7), -1L,
            bit(0, 1) | bit(0, 2) | bit(0, 3), bit(3, 0) | bit(3, 1) | bit(3, 2), Long.MIN_VALUE};
        for (long net : outside) {
            check.refused(x, "cost outside " + net, () -> x.cost(net), WagonWays.OUTSIDE);
        }
        x.tracks(0, 3);
        check.due("three tracks", x.cost(bit(0, 1) | bit(0, 2) | bit(0, 3)), 10);
        x.tracks(0, 0);
        check.due("no tracks", x.cost(bit(0, 1)), WagonWays.OUTSIDE);
        x.land(8);
        x.tracks(7, 7);
        x.load(7, 6, 2);
        check.due("eight yards", x.cost(0x7FL << 56), 20);
        check.due("a yard for itself", x.cost(0xFFL << 56), WagonWays.OUTSIDE);
        x.tracks(7, 6);
        check.due("six tracks", x.cost(0x7FL << 56), WagonWays.OUTSIDE);
    }

    private static void net() {
        WagonWays x = new WagonWays();
        x.load(0, 1, 5);
        check.due("one load", x.net(0), 50);
        check.due("one block", x.net(1), bit(0, 1));
        x.tracks(0, 0);
        check.due("no net", x.net(0), WagonWays.NONE);
        check.due("no net as bits", x.net(1), WagonWays.NONE);
        check.due("a bound all the same", x.net(2), 50);
        x.tracks(0, 1);
        x.load(0, 2, 4);
        x.load(0, 3, 4);
        // One track: all over B with 5 x 10 + 8 x 40; B has two tracks.
        check.due("over B", x.net(0), 50 + 8 * 40);
        check.due("over B as bits", x.net(1), bit(0, 1) | bit(1, 2) | bit(1, 3));
        x.tracks(1, 1);
        // B has one track too, C has two.
        check.due("over C", x.net(0), 40 + 5 * 40 + 4 * 40);
        check.due("over C, as bits", x.net(1), bit(0, 2) | bit(2, 1) | bit(2, 3));
        x.tracks(2, 1);
        x.tracks(3, 1);
        check.due("over B and on", x.net(0), 50 + 4 * 40 + 4 * 70);
        check.due("over B and on, as bits", x.net(1), bit(0, 1) | bit(1, 2) | bit(2, 3));
        for (int what : new int[] {-1, 3, LOW, HIGH}) {
            check.refused(x, "net outside", () -> x.net(what), WagonWays.OUTSIDE);
        }
        x.land(5);
        for (int what : new int[] {-1, 3, LOW, HIGH}) {
            check.refused(x, "net outside ahead of state", () -> x.net(what), WagonWays.OUTSIDE);
        }
        check.refused(x, "net state", () -> x.net(0), WagonWays.STATE);
        check.refused(x, "net state, bits", () -> x.net(1), WagonWays.STATE);
        x.land(2);
        x.load(1, 0, 9);
        check.due("two yards", x.net(1), bit(1, 0));
        x.land(3);
        x.load(2, 0, 9);
        x.load(2, 1, 9);
        check.due("three yards", x.net(1), bit(2, 0) | bit(2, 1));
    }

    private static void netTies() {
        WagonWays x = new WagonWays();
        x.price(0, 0);
        x.miles(0, 3, 20);
        x.load(0, 3, 1);
        // Direct or over B or C, each 20: fewest blocks is direct.
        check.due("fewest blocks", x.net(1), bit(0, 3));
        x.miles(0, 3, 21);
        // Over B or over C, each 20 with two blocks: the least as a number is over B.
        check.due("least as a number", x.net(1), bit(0, 1) | bit(1, 3));
        check.due("its cost", x.net(0), 20);
        x.miles(1, 3, 11);
        check.due("least cost", x.net(1), bit(0, 2) | bit(2, 3));
        x.land(4);
        x.tracks(0, 1);
        x.load(0, 1, 1);
        x.load(0, 2, 1);
        // A makes one block alone, for B or C with the other one behind it, at like cost.
        check.due("of like ones the least, cost", x.net(0), 50);
        check.due("of like ones the least", x.net(1), Math.min(bit(0, 1) | bit(1, 2), bit(0, 2) | bit(2, 1)));
    }

    private static void netDearButFew() {
        WagonWays x = new WagonWays();
        x.price(0, 0);
        x.miles(2, 3, 99);
        x.load(3, 2, 1);
        check.due("least cost ahead of fewest blocks", x.net(0), 20);
        check.due("two blocks", x.net(1), bit(3, 0) | bit(0, 2));
    }

    /** What is asked twice is the same; what it hangs on counts at once. */
    private static void netForgetsNothing() {
        WagonWays x = new WagonWays();
        x.load(0, 1, 2);
        check.due("first", x.net(0), 20);
        check.due("again", x.net(0), 20);
        x.miles(1, 0, 30);
        check.due("behind miles", x.net(0), 60);
        x.miles(1, 0, 99);
        check.due("behind far miles", x.net(0), 80);
        x.price(0, 50);
        check.due("behind a price", x.net(0), 140);
        x.tracks(3, 0);
        x.tracks(2, 0);
        x.tracks(0, 1);
        check.due("behind tracks", x.net(0), 198);
        x.load(0, 1, 1);
        check.due("behind a load", x.net(0), 99);
        x.land(4);
        check.due("behind land", x.net(0), 0);
        check.due("behind land, bits", x.net(1), 0);
    }

    private static void bound() {
        WagonWays x = new WagonWays();
        x.land(8);
        x.miles(0, 7, 99);
        x.load(0, 7, 2);
        x.load(7, 1, 3);
        check.due("over one", x.net(2), 2 * 40 + 3 * 10);
        x.price(0, 99);
        check.due("direct", x.net(2), 2 * 99 + 3 * 10);
        x.price(0, 0);
        check.due("for nothing", x.net(2), 2 * 20 + 3 * 10);
        x.tracks(0, 0);
        check.due("tracks do not bind", x.net(2), 2 * 20 + 3 * 10);
    }

    private static void empties() {
        WagonWays x = new WagonWays();
        check.due("empties", x.empties(0, 0, 50), 0);
        check.due("empties was", x.empties(0, 0, -50), 50);
        check.due("empties was wanted", x.empties(0, 0, 1), -50);
        check.due("another week", x.empties(0, 2, 1), 0);
        int[][] unknown = {{-1, 0}, {4, 0}, {0, -1}, {0, 3}, {LOW, 0}, {0, HIGH}};
        for (int[] u : unknown) {
            check.refused(x, "empties unknown", () -> x.empties(u[0], u[1], 1), -1000);
            check.refused(x, "empties unknown ahead of outside", () -> x.empties(u[0], u[1], 51), -1000);
        }
        for (int v : new int[] {-51, 51, LOW, HIGH}) {
            check.refused(x, "empties outside", () -> x.empties(3, 2, v), -1001);
        }
    }

    private static void least() {
        WagonWays x = new WagonWays();
        check.due("nothing wanted", x.least(), 0);
        x.empties(0, 0, 50);
        check.due("over alone", x.least(), 0);
        x.empties(1, 0, -3);
        check.due("that week", x.least(), 30);
        x.miles(0, 1, 99);
        check.due("by the shortest way", x.least(), 60);
        x.empties(1, 0, 0);
        x.empties(0, 2, -4);
        check.due("they stay two weeks", x.least(), 4 * 10);
        x.price(1, 99);
        check.due("dear stays", x.least(), 4 * 198);
        x.empties(0, 1, -47);
        check.due("too few", x.least(), WagonWays.NONE);
        x.empties(0, 1, -46);
        check.due("just enough", x.least(), 46 * 99 + 4 * 198);
        x.land(2);
        x.empties(0, 1, 5);
        x.empties(1, 0, -1);
        check.due("not back in time", x.least(), WagonWays.NONE);
        x.land(2);
        x.empties(0, 0, -1);
        check.due("none over", x.least(), WagonWays.NONE);
        x.empties(1, 0, 1);
        check.due("one over", x.least(), 10);
        check.due("asked again", x.least(), 10);
    }

    private static void leastChoosesWell() {
        WagonWays x = new WagonWays();
        x.miles(0, 2, 1);
        x.miles(0, 3, 3);
        x.miles(1, 2, 2);
        x.miles(1, 3, 99);
        x.miles(2, 3, 99);
        x.miles(0, 1, 99);
        x.empties(0, 0, 1);
        x.empties(1, 0, 1);
        x.empties(2, 0, -1);
        x.empties(3, 0, -1);
        // The nearest for C is A, but then B must go to D by 6; the other way round it is 3 + 2.
        check.due("the nearest is not the best", x.least(), 5);
        x.empties(2, 0, 0);
        x.empties(2, 1, -1);
        check.due("with a stay", x.least(), 10);
        x.empties(0, 1, 1);
        check.due("with one that is over later", x.least(), 4);
    }

    /** Three givers and three takers, where what was sent first is taken back in parts. */
    private static void leastTakesBack() {
        WagonWays x = new WagonWays();
        x.land(6);
        int[][] miles = {{0, 3, 1}, {0, 4, 2}, {1, 3, 2}, {1, 4, 10}, {1, 5, 20}, {2, 4, 3}, {2, 5, 30}};
        for (int a = 0; a < 6; a++) {
            for (int b = a + 1; b < 6; b++) {
                x.miles(a, b, 99);
            }
        }
        for (int[] m : miles) {
            x.miles(m[0], m[1], m[2]);
        }
        int[] over = {3, 4, 5, -5, -4, -3};
        for (int y = 0; y < 6; y++) {
            x.empties(y, 1, over[y]);
        }
        // A 3, B 4, C 5 for D 5, E 4, F 3; the shortest: A-D 1, A-E 2, A-F 23, B-D 2, B-E 5, B-F 20, C-D 6, C-E 3, C-F 26.
        int best = Integer.MAX_VALUE;
        for (int ad = 0; ad <= 3; ad++) {
            for (int ae = 0; ad + ae <= 3; ae++) {
                for (int bd = 0; bd <= 4 && ad + bd <= 5; bd++) {
                    for (int be = 0; bd + be <= 4 && ae + be <= 4; be++) {
                        int af = 3 - ad - ae;
                        int bf = 4 - bd - be;
                        int cf = 3 - af - bf;
                        int paid = ad + 2 * ae + 23 * af + 2 * bd + 5 * be + 20 * bf + 6 * (5 - ad - bd) + 3 * (4 - ae - be) + 26 * cf;
                        best = cf >= 0 ? Math.min(best, paid) : best;
                    }
                }
            }
        }
        check.due("over all choices", x.least(), best);
        x.empties(1, 1, 0);
        x.empties(1, 0, 4);
        x.price(1, 0);
        check.due("with a stay for nothing", x.least(), best);
        x.price(1, 50);
        check.due("with a dear stay", x.least(), best + 200);
    }
}
