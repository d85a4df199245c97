/** Promises 13 to 22: trains, wagons, the clock and crews. */
public final class TrainsTest {
    private static final int LOW = Integer.MIN_VALUE;
    private static final int HIGH = Integer.MAX_VALUE;
    private static final Check check = new Check("TrainsTest");

    public static void main(String[] args) {
        train();
        wagon();
        sorting();
        sortingByHours();
        close();
        closedDays();
        pass();
        daysOfTheWeek();
        whoIsTaken();
        wagonIs();
        trainIs();
        yard();
        rest();
        crews();
        check.end();
    }

    private static void train() {
        WagonWays x = Check.withBlocks(4, "A>B:B", "A>B:C", "A>C:D", "B>A:A");
        check.due("one block", x.train(0, -1, 1, 0, 1, 1), 0);
        check.due("two blocks", x.train(0, 1, 127, 23, 48, 12), 1);
        int[][] unknown = {{-1, -1}, {4, -1}, {0, 4}, {0, -2}, {0, 2}, {0, 3}, {LOW, 0}, {0, HIGH}, {-1, 0}};
        for (int[] u : unknown) {
            check.refused(x, "train unknown", () -> x.train(u[0], u[1], 1, 0, 1, 1), WagonWays.UNKNOWN);
            check.refused(x, "train unknown ahead of outside", () -> x.train(u[0], u[1], 0, 0, 0, 1), WagonWays.UNKNOWN);
            check.due("no train", x.count(2), 2);
        }
        int[][] outside = {{0, 0, 1, 1}, {128, 0, 1, 1}, {-1, 0, 1, 1}, {1, -1, 1, 1}, {1, 24, 1, 1}, {1, 0, 0, 1},
            {1, 0, 49, 1}, {1, 0, 1, 0}, {1, 0, 1, 13}, {HIGH, 0, 1, 1}, {1, LOW, 1, 1}, {1, 0, HIGH, 1}, {1, 0, 1, LOW}};
        for (int[] o : outside) {
            check.refused(x, "train outside", () -> x.train(0, 1, o[0], o[1], o[2], o[3]), WagonWays.OUTSIDE);
            check.due("no train", x.count(2), 2);
        }
        for (int i = 2; i < 12; i++) {
            check.due("train " + i, x.train(2, -1, 1, 0, 1, 1), i);
        }
        check.refused(x, "train full", () -> x.train(2, -1, 1, 0, 1, 1), WagonWays.FULL);
        check.refused(x, "train outside ahead of full", () -> x.train(2, -1, 1, 24, 1, 1), WagonWays.OUTSIDE);
        check.refused(x, "train unknown ahead of full", () -> x.train(9, -1, 1, 0, 1, 1), WagonWays.UNKNOWN);
        check.due("twelve trains", x.count(2), 12);
    }

    private static void wagon() {
        WagonWays x = new WagonWays();
        check.due("first", x.wagon(0, 3), 0);
        x.pass(7);
        check.due("second", x.wagon(3, 0), 1);
        check.due("ready at once", x.wagonIs(1, 2), 7);
        check.due("stands there", x.wagonIs(1, 0), 3);
        check.due("its goal", x.wagonIs(1, 5), 0);
        int[][] unknown = {{-1, 0}, {0, -1}, {4, 0}, {0, 4}, {1, 1}, {LOW, HIGH}};
        for (int[] u : unknown) {
            check.refused(x, "wagon unknown", () -> x.wagon(u[0], u[1]), WagonWays.UNKNOWN);
        }
        for (int i = 2; i < 30; i++) {
            check.due("wagon " + i, x.wagon(1, 2), i);
        }
        check.refused(x, "wagon full", () -> x.wagon(1, 2), WagonWays.FULL);
        check.refused(x, "wagon unknown ahead of full", () -> x.wagon(2, 2), WagonWays.UNKNOWN);
        check.due("thirty wagons", x.count(3), 30);
    }

    private static void sorting() {
        WagonWays x = new WagonWays();
        check.due("sorting(0)", x.sorting(0), 2);
        check.due("sorting(12)", x.sorting(12), 0);
        for (int s : new int[] {-1, 13, LOW, HIGH}) {
            check.refused(x, "sorting outside", () -> x.sorting(s), WagonWays.OUTSIDE);
        }
        check.due("sorting stays", x.sorting(2), 12);
    }

    private static void sortingByHours() {
        for (int s = 0; s <= 12; s++) {
            WagonWays x = Check.withBlocks(3, "A>B:C", "B>C:C");
            x.sorting(s);
            x.train(0, -1, 1, 0, 5, 1);
            x.train(1, -1, 1, 5 + s, 1, 1);
            x.wagon(0, 2);
            x.pass(6);
            check.due("ready " + s + " hours later", x.wagonIs(0, 2), s == 0 ? 6 : 5 + s);
            x.sorting(3);
            check.due("stands as it is", x.wagonIs(0, 2), s == 0 ? 6 : 5 + s);
            x.pass(20);
            check.due("caught with sorting " + s, x.wagonIs(0, 4), 1);
            check.due("came in with sorting " + s, x.wagonIs(0, 2), 6 + s);
        }
    }

    private static void close() {
        WagonWays x = new WagonWays();
        check.due("close", x.close(0, 0, 99), 1);
        check.due("one day", x.close(3, 99, 99), 1);
        check.due("never", x.close(3, -1, -1), 1);
        for (int y : new int[] {-1, 4, LOW, HIGH}) {
            check.refused(x, "close unknown", () -> x.close(y, 0, 1), WagonWays.UNKNOWN);
            check.refused(x, "close unknown ahead of outside", () -> x.close(y, 2, 1), WagonWays.UNKNOWN);
        }
        int[][] outside = {{-1, 0}, {0, -1}, {-2, -2}, {5, 4}, {0, 100}, {100, 100}, {-2, 5}, {LOW, HIGH}, {-1, 99}};
        for (int[] o : outside) {
            check.refused(x, "close outside", () -> x.close(1, o[0], o[1]), WagonWays.OUTSIDE);
        }
        WagonWays kept = Check.withBlocks(2, "A>B:B");
        kept.train(0, -1, 127, 0, 1, 1);
        kept.close(1, 0, 0);
        kept.close(1, 3, 2);
        kept.close(2, -1, -1);
        kept.pass(1);
        check.due("a refused close leaves it closed", kept.trainIs(0, 2), 1);
    }

    private static void closedDays() {
        WagonWays x = Check.withBlocks(3, "A>B:B", "B>C:C", "C>A:A");
        x.train(0, -1, 127, 0, 1, 1);
        x.train(1, -1, 127, 23, 1, 1);
        x.train(2, -1, 127, 12, 30, 1);
        x.close(1, 8, 9);
        x.wagon(0, 1);
        x.pass(200);
        check.due("wagon is in", x.wagonIs(0, 4), 1);
        // Hour 199 is day 8, hour 7: day 8's hour 0 was closed for the train to B, day 8's 12 and 23 are to come.
        check.due("to a closed yard", x.trainIs(0, 2), 1);
        check.due("not yet", x.trainIs(1, 2), 0);
        x.pass(40);
        check.due("to it, both days", x.trainIs(0, 2), 2);
        check.due("from it, both days", x.trainIs(1, 2), 2);
        check.due("past it", x.trainIs(2, 2), 0);
        check.due("left else", x.trainIs(0, 0), 8);
        check.due("left else from it", x.trainIs(1, 0), 8);
        check.due("left past it", x.trainIs(2, 0), 10);
        x.pass(1);
        check.due("open again", x.trainIs(0, 0), 9);
        closedOnTheWay();
    }

    private static void closedOnTheWay() {
        WagonWays x = Check.withBlocks(2, "A>B:B");
        x.train(0, -1, 1, 23, 2, 1);
        x.wagon(0, 1);
        x.close(1, 1, 5);
        x.pass(26);
        check.due("what is on the way comes in", x.wagonIs(0, 4), 1);
        x.close(1, 7, 7);
        x.close(1, 8, 8);
        x.pass(200);
        check.due("a later closing counts alone", x.trainIs(0, 2), 0);
        check.due("it left", x.trainIs(0, 0), 2);
    }

    private static void pass() {
        WagonWays x = new WagonWays();
        check.due("pass(1)", x.pass(1), 1);
        check.due("pass(200)", x.pass(200), 201);
        for (int n : new int[] {0, -1, 201, LOW, HIGH}) {
            check.refused(x, "pass outside", () -> x.pass(n), WagonWays.OUTSIDE);
        }
        for (int i = 0; i < 8; i++) {
            x.pass(200);
        }
        check.due("1801", x.count(4), 1801);
        check.refused(x, "above the last", () -> x.pass(200), WagonWays.STATE);
        check.due("to the last", x.pass(199), 2000);
        check.refused(x, "no more", () -> x.pass(1), WagonWays.STATE);
        check.refused(x, "outside ahead of state", () -> x.pass(0), WagonWays.OUTSIDE);
    }

    private static void daysOfTheWeek() {
        for (int day = 0; day < 7; day++) {
            WagonWays x = Check.withBlocks(2, "A>B:B");
            x.train(0, -1, 1 << day, 13, 48, 1);
            x.pass(24 * day + 13);
            check.due("not before its hour", x.trainIs(0, 0), 0);
            x.pass(1);
            check.due("at its hour", x.trainIs(0, 0), 1);
            x.pass(167);
            check.due("not for a week", x.trainIs(0, 0), 1);
            x.pass(1);
            check.due("a week later", x.trainIs(0, 0), 2);
        }
    }

    private static void whoIsTaken() {
        WagonWays x = Check.withBlocks(4, "A>B:B", "A>B:C", "B>A:A", "A>B:D/1", "A>C:D/2");
        x.sorting(0);
        x.wagon(0, 2);
        x.wagon(0, 1);
        x.wagon(0, 3);
        x.pass(1);
        x.wagon(0, 1);
        x.wagon(0, 2);
        x.wagon(0, 1);
        x.train(0, 1, 127, 1, 4, 3);
        x.train(1, 3, 127, 1, 6, 5);
        x.pass(1);
        // The first train: block 0 first, ready longest first, of like ones the least number: 1, 3, 5.
        int[] in = {1, 0, -1, 0, 1, 0};
        int[] comes = {7, 5, 0, 5, 7, 5};
        for (int w = 0; w < 6; w++) {
            check.due("in which train " + w, x.wagonIs(w, 1), in[w]);
            check.due("comes in " + w, x.wagonIs(w, 2), comes[w]);
        }
        check.due("one waits for its own block", x.wagonIs(2, 0), 0);
        check.due("it ran with three", x.trainIs(0, 1), 3);
        check.due("it ran with two", x.trainIs(1, 1), 2);
        longestReadyFirst();
        twoBlocks();
    }

    private static void twoBlocks() {
        WagonWays x = Check.withBlocks(3, "A>B:B", "A>B:C");
        for (int i = 0; i < 4; i++) {
            x.wagon(0, 2);
            x.wagon(0, 1);
        }
        x.train(1, 0, 127, 0, 4, 6);
        x.pass(1);
        // All four of block 1, then of block 0 the two of least numbers, which are 1 and 3.
        for (int w = 0; w < 8; w++) {
            check.due("taken " + w, x.wagonIs(w, 1), w == 5 || w == 7 ? -1 : 0);
        }
        check.due("of both blocks", x.trainIs(0, 1), 6);
        x.pass(24);
        check.due("the others a day later", x.trainIs(0, 1), 8);
        x.pass(24);
        check.due("without any", x.trainIs(0, 1), 8);
        check.due("it runs all the same", x.trainIs(0, 0), 3);
    }

    private static void longestReadyFirst() {
        WagonWays x = Check.withBlocks(3, "A>B:BC", "B>C:C", "C>A:AB");
        x.sorting(12);
        x.train(2, -1, 1, 0, 1, 2);
        x.wagon(2, 1);
        x.pass(2);
        x.wagon(0, 1);
        x.train(0, -1, 1, 12, 1, 1);
        x.train(0, -1, 1, 13, 1, 1);
        x.train(0, -1, 1, 14, 1, 1);
        x.pass(10);
        x.wagon(0, 2);
        x.pass(3);
        // Wagon 1 is ready at 2, wagon 2 at 12, wagon 0 at 13.
        check.due("first", x.wagonIs(1, 2), 13);
        check.due("second", x.wagonIs(2, 2), 26);
        check.due("second ran", x.wagonIs(2, 3), 1);
        check.due("third", x.wagonIs(0, 1), 3);
        check.due("third ran in two", x.wagonIs(0, 3), 2);
    }

    private static void wagonIs() {
        WagonWays x = Check.withBlocks(3, "A>B:C", "B>C:C");
        x.train(0, -1, 1, 3, 10, 1);
        x.train(1, -1, 2, 0, 4, 1);
        x.wagon(0, 2);
        wagonTells(x, "waiting", 0, -1, 0, 0, 0);
        x.pass(3);
        wagonTells(x, "ahead of leaving", 0, -1, 0, 0, 0);
        x.pass(1);
        wagonTells(x, "running", -1, 0, 13, 1, 0);
        x.pass(9);
        wagonTells(x, "at the hour of coming in", -1, 0, 13, 1, 0);
        x.pass(1);
        wagonTells(x, "standing, not ready", 1, -1, 15, 1, 0);
        x.pass(11);
        wagonTells(x, "running again", -1, 1, 28, 2, 0);
        x.pass(4);
        wagonTells(x, "done", -1, -1, 28, 2, 1);
        x.pass(100);
        wagonTells(x, "done for good", -1, -1, 28, 2, 1);
        for (int w : new int[] {-1, 1, 30, LOW, HIGH}) {
            check.refused(x, "wagonIs unknown", () -> x.wagonIs(w, 0), WagonWays.UNKNOWN);
            check.refused(x, "wagonIs unknown ahead of outside", () -> x.wagonIs(w, 6), WagonWays.UNKNOWN);
        }
        for (int what : new int[] {-1, 6, LOW, HIGH}) {
            check.refused(x, "wagonIs outside", () -> x.wagonIs(0, what), WagonWays.OUTSIDE);
        }
    }

    private static void wagonTells(WagonWays x, String when, int... want) {
        for (int what = 0; what < 5; what++) {
            check.due("wagonIs(0, " + what + ") " + when, x.wagonIs(0, what), want[what]);
        }
        check.due("its goal " + when, x.wagonIs(0, 5), 2);
    }

    private static void trainIs() {
        WagonWays x = Check.withBlocks(2, "A>B:B");
        x.train(0, -1, 127, 0, 48, 2);
        x.train(0, -1, 127, 5, 1, 2);
        x.wagon(0, 1);
        x.wagon(0, 1);
        x.wagon(0, 1);
        trainTells(x, 0, "at first", 0, 0, 0, 0);
        x.pass(1);
        trainTells(x, 0, "behind one", 1, 2, 0, 1);
        x.pass(5);
        trainTells(x, 1, "on the way yet", 1, 1, 0, 1);
        x.pass(1);
        trainTells(x, 1, "came in", 1, 1, 0, 0);
        x.pass(41);
        trainTells(x, 0, "at 48", 2, 2, 0, 2);
        x.pass(1);
        trainTells(x, 0, "at 49", 3, 2, 0, 2);
        x.close(0, 3, 4);
        x.pass(71);
        trainTells(x, 0, "at 120, closed", 3, 2, 2, 0);
        for (int t : new int[] {-1, 2, 12, LOW, HIGH}) {
            check.refused(x, "trainIs unknown", () -> x.trainIs(t, 0), WagonWays.UNKNOWN);
            check.refused(x, "trainIs unknown ahead of outside", () -> x.trainIs(t, 4), WagonWays.UNKNOWN);
        }
        for (int what : new int[] {-1, 4, LOW, HIGH}) {
            check.refused(x, "trainIs outside", () -> x.trainIs(0, what), WagonWays.OUTSIDE);
        }
    }

    private static void trainTells(WagonWays x, int t, String when, int... want) {
        for (int what = 0; what < 4; what++) {
            check.due("trainIs(" + t + ", " + what + ") " + when, x.trainIs(t, what), want[what]);
        }
    }

    private static void yard() {
        WagonWays x = Check.withBlocks(3, "A>B:C");
        x.train(0, -1, 1, 0, 1, 2);
        x.wagon(0, 2);
        x.wagon(0, 2);
        x.wagon(0, 1);
        check.due("standing", x.yard(0, 0), 3);
        check.due("ready", x.yard(0, 1), 3);
        x.pass(1);
        check.due("two left", x.yard(0, 0), 1);
        check.due("not in yet", x.yard(1, 0), 0);
        x.pass(1);
        check.due("two came", x.yard(1, 0), 2);
        check.due("not ready", x.yard(1, 1), 0);
        x.pass(1);
        check.due("ready at the clock", x.yard(1, 1), 2);
        check.due("none there", x.yard(2, 0), 0);
        for (int y : new int[] {-1, 3, LOW, HIGH}) {
            check.refused(x, "yard unknown", () -> x.yard(y, 0), WagonWays.UNKNOWN);
            check.refused(x, "yard unknown ahead of outside", () -> x.yard(y, 2), WagonWays.UNKNOWN);
        }
        for (int what : new int[] {-1, 2, LOW, HIGH}) {
            check.refused(x, "yard outside", () -> x.yard(0, what), WagonWays.OUTSIDE);
        }
    }

    private static void rest() {
        WagonWays x = new WagonWays();
        check.due("rest(48)", x.rest(48), 8);
        check.due("rest(0)", x.rest(0), 48);
        for (int r : new int[] {-1, 49, LOW, HIGH}) {
            check.refused(x, "rest outside", () -> x.rest(r), WagonWays.OUTSIDE);
        }
        check.due("rest stays", x.rest(1), 0);
    }

    private static void crews() {
        WagonWays x = Check.withBlocks(3, "A>B:B", "B>A:A", "B>C:C");
        x.train(0, -1, 127, 0, 4, 1);
        check.due("duties", x.crews(0), 7);
        check.due("no way back", x.crews(1), 7);
        check.due("hours", x.crews(2), 28);
        x.train(1, -1, 127, 12, 4, 1);
        check.due("to and fro", x.crews(1), 1);
        x.rest(9);
        // Each crew is at A again only on the third day, and one begins at B on day 0.
        check.due("longer rest", x.crews(1), 3);
        x.rest(8);
        check.due("just enough", x.crews(1), 1);
        x.train(2, -1, 3, 12, 48, 1);
        check.due("duties of three", x.crews(0), 16);
        check.due("hours of three", x.crews(2), 28 + 28 + 96);
        check.due("two go astray", x.crews(1), 3);
        for (int what : new int[] {-1, 3, LOW, HIGH}) {
            check.refused(x, "crews outside", () -> x.crews(what), WagonWays.OUTSIDE);
        }
        weekEnds();
    }

    private static void weekEnds() {
        WagonWays x = Check.withBlocks(3, "A>B:B", "B>C:C");
        x.rest(0);
        x.train(0, -1, 64, 23, 1, 1);
        x.train(1, -1, 1, 0, 1, 1);
        check.due("no crew goes round the week", x.crews(1), 2);
        x.train(0, -1, 2, 1, 1, 1);
        x.train(1, -1, 2, 2, 1, 1);
        check.due("at once without rest", x.crews(1), 3);
        x.rest(1);
        check.due("not with rest", x.crews(1), 4);
        x.train(1, -1, 64, 23, 48, 1);
        check.due("one that ends behind the week", x.crews(1), 4);
        check.due("is a duty with all its hours", x.crews(2), 52);
    }
}
