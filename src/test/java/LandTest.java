/** Promises 1 to 12: the land, the page, blocks and ways. */
public final class LandTest {
    private static final int LOW = Integer.MIN_VALUE;
    private static final int HIGH = Integer.MAX_VALUE;
    private static final Check check = new Check("LandTest");

    public static void main(String[] args) {
        newObject();
        land();
        miles();
        far();
        letters();
        blank();
        good();
        block();
        about();
        goes();
        way();
        lost();
        check.end();
    }

    private static void newObject() {
        WagonWays x = new WagonWays();
        int[] counts = {4, 0, 0, 0, 0, 0, 0, 0, 0, 0, 0};
        for (int what = 0; what < counts.length; what++) {
            check.due("count(" + what + ") at first", x.count(what), counts[what]);
        }
        check.due("miles at first", x.miles(0, 3, 10), 10);
        check.due("far at first", x.far(2, 1), 10);
        check.due("sorting at first", x.sorting(2), 2);
        check.due("rest at first", x.rest(8), 8);
        check.due("handling at first", x.price(0, 20), 20);
        check.due("stay at first", x.price(1, 5), 5);
        check.due("load at first", x.load(3, 0, 0), 0);
        check.due("tracks at first", x.tracks(3, 2), 2);
        check.due("empties at first", x.empties(3, 2, 0), 0);
        check.due("goes at first", x.goes(0, 1), WagonWays.NONE);
        check.due("lost at first", x.lost(), 12);
        check.due("crews at first", x.crews(0) + x.crews(1) + x.crews(2), 0);
        check.due("least at first", x.least(), 0);
        check.due("best cost at first", x.net(0), 0);
        check.due("best net at first", x.net(1), 0);
        check.due("bound at first", x.net(2), 0);
        check.due("share at first", x.share(0, 0), 1);
        check.due("promise at first", x.promise(999), 0);
        check.due("change at first", x.change(0, 0), 0);
    }

    private static void land() {
        WagonWays x = new WagonWays();
        for (int n = 2; n <= 8; n++) {
            fillAll(x);
            check.due("land(" + n + ")", x.land(n), n);
            WagonWays fresh = new WagonWays();
            fresh.land(n);
            check.due("all as at first, land " + n, x.digest(), fresh.digest());
            check.due("sorting as at first", x.sorting(2), 2);
            check.due("rest as at first", x.rest(8), 8);
            check.due("handling as at first", x.price(0, 20), 20);
            check.due("stay as at first", x.price(1, 5), 5);
            check.due("goes as at first", x.goes(0, 1), WagonWays.NONE);
            check.due("lost as at first", x.lost(), n * (n - 1));
            check.due("clock as at first", x.count(4), 0);
            check.due("none done as at first", x.count(5), 0);
            check.due("none runs as at first", x.count(6), 0);
            check.due("none stands as at first", x.yard(0, 0) + x.yard(1, 0), 0);
            check.due("no duties as at first", x.crews(0), 0);
            closingsAreGone(x, n);
        }
        fillAll(x);
        for (int n : new int[] {LOW, -1, 0, 1, 9, 100, HIGH}) {
            check.refused(x, "land(" + n + ")", () -> x.land(n), WagonWays.OUTSIDE);
        }
    }

    private static void closingsAreGone(WagonWays x, int n) {
        Check.block(x, "A>B:B");
        x.train(0, -1, 127, 0, 1, 1);
        x.pass(1);
        check.due("nothing closed with " + n, x.trainIs(0, 0), 1);
    }

    /** Sets all that can be set, on however many yards there are. */
    private static void fillAll(WagonWays x) {
        x.miles(0, 1, 77);
        Check.block(x, "A>B:B/9");
        Check.write(x, "B>A:");
        x.train(0, -1, 127, 3, 4, 5);
        x.wagon(0, 1);
        x.wagon(1, 0);
        x.sorting(11);
        x.pass(28);
        x.wagon(0, 1);
        x.pass(1);
        x.close(0, 0, 99);
        x.close(1, 0, 99);
        x.rest(40);
        x.roll(4);
        x.roll(3);
        x.load(0, 1, 9);
        x.tracks(1, 7);
        x.price(0, 1);
        x.price(1, 2);
        x.net(0);
        x.empties(0, 2, -7);
        x.empties(1, 0, 9);
        x.leg(5, 5);
        x.change(1, 0);
    }

    private static void miles() {
        WagonWays x = new WagonWays();
        check.due("miles(1, 2, 99)", x.miles(1, 2, 99), 10);
        check.due("miles(2, 1, 1)", x.miles(2, 1, 1), 99);
        check.due("miles(1, 2, 50)", x.miles(1, 2, 50), 1);
        check.due("others stay", x.miles(1, 3, 10), 10);
        int[][] unknown = {{-1, 0}, {0, -1}, {4, 0}, {0, 4}, {2, 2}, {LOW, 1}, {1, HIGH}};
        for (int[] u : unknown) {
            check.refused(x, "miles unknown", () -> x.miles(u[0], u[1], 5), WagonWays.UNKNOWN);
            check.refused(x, "miles unknown ahead of outside", () -> x.miles(u[0], u[1], 0), WagonWays.UNKNOWN);
        }
        for (int v : new int[] {0, 100, -1, LOW, HIGH}) {
            check.refused(x, "miles outside", () -> x.miles(0, 1, v), WagonWays.OUTSIDE);
        }
    }

    private static void far() {
        WagonWays x = new WagonWays();
        x.land(5);
        x.miles(0, 4, 99);
        check.due("over one yard", x.far(0, 4), 20);
        x.miles(0, 1, 1);
        x.miles(1, 2, 1);
        x.miles(2, 3, 1);
        x.miles(3, 4, 1);
        check.due("over three yards", x.far(0, 4), 4);
        check.due("the same both ways", x.far(4, 0), 4);
        check.due("to itself", x.far(3, 3), 0);
        WagonWays three = new WagonWays();
        three.land(3);
        three.miles(1, 2, 99);
        check.due("over the first", three.far(1, 2), 20);
        three.land(3);
        three.miles(0, 1, 99);
        check.due("over the last", three.far(0, 1), 20);
        int[][] unknown = {{-1, 0}, {0, -1}, {5, 0}, {0, 5}, {LOW, LOW}, {HIGH, HIGH}};
        for (int[] u : unknown) {
            check.refused(x, "far unknown", () -> x.far(u[0], u[1]), WagonWays.UNKNOWN);
        }
    }

    private static void letters() {
        WagonWays x = new WagonWays();
        check.due("no letter", x.letters(0), 0);
        check.due("one", x.letters(1), 1);
        check.due("the greatest code", x.letters(126), 2);
        long eight = Check.word("ABCDEFGH");
        check.due("eight", x.letters(eight), 10);
        check.refused(x, "127", () -> x.letters(127), WagonWays.OUTSIDE);
        check.refused(x, "255 highest", () -> x.letters(eight | 0xFFL << 56), WagonWays.OUTSIDE);
        check.refused(x, "127 in the middle", () -> x.letters(0x4141417F414141L), WagonWays.OUTSIDE);
        check.refused(x, "behind a 0", () -> x.letters(0x410041L), WagonWays.OUTSIDE);
        check.refused(x, "0 lowest", () -> x.letters(0x4100L), WagonWays.OUTSIDE);
        check.refused(x, "far behind a 0", () -> x.letters(0x4100000000000041L), WagonWays.OUTSIDE);
        x.letters(eight);
        x.letters(eight);
        x.letters(eight);
        check.due("34", x.count(9), 34);
        check.refused(x, "full", () -> x.letters(Check.word("ABCDEFG")), WagonWays.FULL);
        check.refused(x, "outside ahead of full", () -> x.letters(Check.word("ABCDEF") | 0x7FL << 56), WagonWays.OUTSIDE);
        check.due("to the brim", x.letters(Check.word("ABCDEF")), 40);
        check.due("no more", x.letters(0), 40);
        check.refused(x, "full by one", () -> x.letters(65), WagonWays.FULL);
    }

    private static void blank() {
        WagonWays x = new WagonWays();
        check.due("empty", x.blank(), 0);
        x.letters(Check.word("XYZ"));
        check.due("three", x.blank(), 3);
        check.due("empty again", x.count(9), 0);
        check.due("a new text", x.letters(65), 1);
    }

    private static int goodOf(WagonWays x, String text) {
        x.blank();
        Check.write(x, text);
        int before = x.count(9);
        int good = x.good();
        check.due("good leaves the page", x.count(9), before);
        return good;
    }

    private static void good() {
        WagonWays x = new WagonWays();
        Object[][] texts = {
            {"", 0}, {"A", 1}, {"D", 1}, {"E", 0}, {"a", 0}, {"A:", 1}, {"AB", 1}, {"A>", 2}, {"A>A", 2}, {"A>E", 2},
            {"A>B", 3}, {"A>B>", 3}, {"A>B:", 4}, {"A>B:A", 4}, {"A>B:/", 4}, {"A>B:B", 5}, {"A>B:BB", 5},
            {"A>B:BC", 6}, {"A>B:CBA", 6}, {"A>B:DCB", 7}, {"A>B:DCBE", 7}, {"A>B:DCB/", 8}, {"A>B:C/0", 6},
            {"A>B:C/1", 7}, {"A>B:C/9", 7}, {"A>B:C/:", 6}, {"A>B:C/55", 7}, {"A>B:C/5/", 7}, {"A>B:C//", 6},
            {"A>B:C/5D", 7}, {"B>A:CA/2 and more of it", 8}, {" A>B:C", 0}, {"A>B:C ", 5}, {"@>B:C", 0}};
        for (Object[] t : texts) {
            check.due("good " + t[0], goodOf(x, (String) t[0]), (Integer) t[1]);
        }
        x.land(8);
        check.due("good of eight", goodOf(x, "H>G:ABCDEFG/9"), 13);
        check.due("good of a yard too far", goodOf(x, "H>I"), 2);
        x.land(2);
        check.due("good of two", goodOf(x, "B>A:A/1"), 7);
        check.due("good of two, a third", goodOf(x, "B>A:AC"), 5);
    }

    private static void block() {
        WagonWays x = new WagonWays();
        for (String none : new String[] {"", "A", "A>B", "A>B:", "A>B:C/", "A>B:CC", "A>B:A", "A>A:B", "A>B:E", "E>A:B",
            "A>B:C/0", "A>B:C/5x", "A>B:C/55", " A>B:C", "A>B:C "}) {
            x.blank();
            Check.write(x, none);
            check.refused(x, "block of " + none, x::block, WagonWays.STATE);
            check.due("no block", x.count(1), 0);
        }
        x.blank();
        Check.write(x, "C>A:BAD/7");
        check.due("block", x.block(), 0);
        check.due("page is empty", x.count(9), 0);
        check.due("one block", x.count(1), 1);
        check.refused(x, "block of an empty page", x::block, WagonWays.STATE);
        for (int i = 1; i < 20; i++) {
            check.due("block " + i, Check.block(x, "A>B:B"), i);
        }
        Check.write(x, "A>B:");
        check.refused(x, "state ahead of full", x::block, WagonWays.STATE);
        Check.write(x, "B");
        check.refused(x, "full", x::block, WagonWays.FULL);
        check.due("page stays", x.count(9), 5);
    }

    private static void about() {
        WagonWays x = Check.withBlocks(8, "C>A:BAD/7", "H>G:ABCDEFG", "A>B:H/1");
        int[][] want = {{2, 0, 11, 7}, {7, 6, 127, 5}, {0, 1, 128, 1}};
        for (int b = 0; b < 3; b++) {
            for (int what = 0; what < 4; what++) {
                check.due("about(" + b + ", " + what + ")", x.about(b, what), want[b][what]);
            }
        }
        for (int b : new int[] {-1, 3, 20, LOW, HIGH}) {
            check.refused(x, "about unknown", () -> x.about(b, 0), WagonWays.UNKNOWN);
            check.refused(x, "about unknown ahead of outside", () -> x.about(b, 4), WagonWays.UNKNOWN);
        }
        for (int what : new int[] {-1, 4, LOW, HIGH}) {
            check.refused(x, "about outside", () -> x.about(1, what), WagonWays.OUTSIDE);
        }
    }

    private static void goes() {
        WagonWays x = Check.withBlocks(4, "A>B:CD", "A>C:CD/6", "A>D:CD/6", "A>D:D/9", "B>C:AC/1", "B>A:AC/2", "B>D:AC/2");
        check.due("greatest rank, least number", x.goes(0, 2), 1);
        check.due("greatest rank", x.goes(0, 3), 3);
        check.due("none takes it", x.goes(0, 1), WagonWays.NONE);
        check.due("at another yard", x.goes(1, 2), 5);
        check.due("to itself", x.goes(0, 0), WagonWays.NONE);
        check.due("none made there", x.goes(3, 0), WagonWays.NONE);
        int[][] unknown = {{-1, 0}, {0, -1}, {4, 0}, {0, 4}, {LOW, HIGH}};
        for (int[] u : unknown) {
            check.refused(x, "goes unknown", () -> x.goes(u[0], u[1]), WagonWays.UNKNOWN);
        }
    }

    private static void way() {
        WagonWays x = Check.withBlocks(4, "A>B:BCD", "B>C:CD", "C>D:D", "C>A:B", "D>B:A", "B>D:A", "D>A:C/1");
        x.miles(0, 1, 7);
        x.miles(1, 2, 20);
        x.miles(2, 3, 31);
        check.due("handled", x.way(0, 3, 0), 2);
        check.due("miles, not the shortest", x.way(0, 3, 1), 58);
        int[] stops = {0, 1, 2, 3, -1, -1, -1, -1, -1};
        for (int i = 0; i < 9; i++) {
            check.due("stop " + i, x.way(0, 3, 10 + i), stops[i]);
        }
        check.due("direct handled", x.way(0, 1, 0), 0);
        check.due("direct miles", x.way(0, 1, 1), 7);
        check.due("direct stop", x.way(0, 1, 11), 1);
        check.due("comes to a yard again", x.way(3, 0, 0), WagonWays.NONE);
        check.due("comes again, miles", x.way(1, 0, 1), WagonWays.NONE);
        check.due("comes again, first stop", x.way(1, 0, 10), WagonWays.NONE);
        check.due("no block takes it", x.way(2, 0, 0), WagonWays.NONE);
        check.due("none takes it later", x.way(3, 2, 0), 2);
        check.due("to itself handled", x.way(2, 2, 0), 0);
        check.due("to itself miles", x.way(2, 2, 1), 0);
        check.due("to itself first", x.way(2, 2, 10), 2);
        check.due("to itself second", x.way(2, 2, 11), WagonWays.NONE);
        longestWay();
        wayRefusals(x);
    }

    private static void longestWay() {
        WagonWays x = Check.withBlocks(8, "A>B:H", "B>C:H", "C>D:H", "D>E:H", "E>F:H", "F>G:H", "G>H:H");
        check.due("longest handled", x.way(0, 7, 0), 6);
        check.due("longest miles", x.way(0, 7, 1), 70);
        check.due("longest last", x.way(0, 7, 17), 7);
        check.due("longest behind", x.way(0, 7, 18), WagonWays.NONE);
    }

    private static void wayRefusals(WagonWays x) {
        int[][] unknown = {{-1, 0}, {0, -1}, {4, 0}, {0, 4}, {LOW, HIGH}};
        for (int[] u : unknown) {
            check.refused(x, "way unknown", () -> x.way(u[0], u[1], 0), WagonWays.UNKNOWN);
            check.refused(x, "way unknown ahead of outside", () -> x.way(u[0], u[1], 2), WagonWays.UNKNOWN);
        }
        for (int what : new int[] {-1, 2, 9, 19, LOW, HIGH}) {
            check.refused(x, "way outside", () -> x.way(0, 3, what), WagonWays.OUTSIDE);
            check.refused(x, "way outside ahead of none", () -> x.way(2, 0, what), WagonWays.OUTSIDE);
        }
    }

    private static void lost() {
        WagonWays x = Check.withBlocks(3, "A>B:BC", "B>C:CA", "C>A:A");
        // C has no block for B; all other pairs come.
        check.due("lost one", x.lost(), 1);
        Check.block(x, "C>A:B");
        check.due("lost none", x.lost(), 0);
        Check.block(x, "A>C:B/9");
        check.due("a circle loses both", x.lost(), 2);
    }
}
