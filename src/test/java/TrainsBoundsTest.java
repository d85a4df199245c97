import java.io.IOException;

/** Part 2 of the terms and promises 13 to 22: each sentence that names a boundary, at it and beside it. */
public final class TrainsBoundsTest {
    private static final int NONE = -1, UNKNOWN = -101, OUTSIDE = -102, STATE = -103, FULL = -104;
    private static final int EVERY_DAY = 127;
    private static final Check check = new Check("TrainsBoundsTest");

    public static void main(String[] args) throws IOException {
        check.reads(args);
        twelveTrains();
        daysAndHours();
        hoursTaken();
        lengths();
        oneOrTwoBlocks();
        thirtyWagons();
        sortingLeastAndGreatest();
        sortingLeavesWhatStands();
        clockGoesRound();
        comesInThenLeaves();
        twoComeInAtOnce();
        doneAtItsGoal();
        trainsByNumber();
        firstBlockThenSecond();
        readyAtTheClock();
        readyLongestFirst();
        runsWithoutAny();
        closedDays();
        closedEitherEnd();
        closedDaysAreNotOfAWeek();
        closeTakes();
        passLeastAndGreatest();
        clockToTheLast();
        readyAtOnce();
        wagonTells();
        trainTells();
        yardTells();
        duties();
        restLeastAndGreatest();
        crewsAtYards();
        crewsWithinOneWeek();
        check.end();
    }

    /** Two yards, a block to and fro. */
    private static WagonWays pair() {
        return Check.withBlocks(2, "A>B:B", "B>A:A");
    }

    private static void passTo(WagonWays x, int hour) {
        for (int i = 0; i < 12 && x.count(4) < hour; i++) {
            x.pass(Math.min(200, hour - x.count(4)));
        }
        check.due("the clock", x.count(4), hour);
    }

    private static void twelveTrains() {
        check.says("TRAINS (12 at most, numbered): from a YARD to another one");
        WagonWays x = pair();
        for (int t = 0; t < 12; t++) {
            check.due("train " + t, x.train(0, NONE, 1, 0, 1, 1), t);
            check.due("trains", x.count(2), t + 1);
        }
        check.due("one more", x.train(0, NONE, 1, 0, 1, 1), FULL);
        check.due("trains then", x.count(2), 12);
        check.due("the last", x.trainIs(11, 0), 0);
        check.due("behind the last", x.trainIs(12, 0), UNKNOWN);
        x.pass(1);
        check.due("the last left too", x.trainIs(11, 0), 1);
    }

    private static void daysAndHours() {
        check.says("on days of the week (bits, day 0 lowest), leaving at an HOUR 0 to 23, taking 1 to 48 HOURS");
        for (int day = 0; day < 7; day++) {
            for (int hour : new int[] {0, 23}) {
                WagonWays x = pair();
                check.due("day " + day + ", hour " + hour, x.train(0, NONE, 1 << day, hour, 1, 1), 0);
                passTo(x, 24 * day + hour);
                check.due("not yet", x.trainIs(0, 0), 0);
                x.pass(1);
                check.due("at its hour", x.trainIs(0, 0), 1);
                passTo(x, 24 * (day + 7) + hour);
                check.due("not for a week", x.trainIs(0, 0), 1);
                x.pass(1);
                check.due("a week later", x.trainIs(0, 0), 2);
            }
        }
        WagonWays x = pair();
        check.due("no day", x.train(0, NONE, 0, 0, 1, 1), OUTSIDE);
        check.due("an eighth day", x.train(0, NONE, 128, 0, 1, 1), OUTSIDE);
        check.due("a day and an eighth", x.train(0, NONE, 129, 0, 1, 1), OUTSIDE);
        check.due("an hour below", x.train(0, NONE, 1, -1, 1, 1), OUTSIDE);
        check.due("an hour above", x.train(0, NONE, 1, 24, 1, 1), OUTSIDE);
        check.due("all days", x.train(0, NONE, 127, 0, 1, 1), 0);
        check.due("all but day 6", x.train(0, NONE, 63, 0, 1, 1), 1);
        passTo(x, 168);
        check.due("left on all days", x.trainIs(0, 0), 7);
        check.due("left on six days", x.trainIs(1, 0), 6);
    }

    private static void hoursTaken() {
        for (int takes : new int[] {1, 2, 23, 24, 25, 47, 48}) {
            WagonWays x = pair();
            check.due("takes " + takes, x.train(0, NONE, 1, 0, takes, 1), 0);
            x.wagon(0, 1);
            passTo(x, takes);
            check.due("runs yet", x.wagonIs(0, 1), 0);
            check.due("will come in", x.wagonIs(0, 2), takes);
            check.due("on the way yet", x.trainIs(0, 3), 1);
            x.pass(1);
            check.due("runs no more", x.wagonIs(0, 1), NONE);
            check.due("came in", x.wagonIs(0, 2), takes);
            check.due("is done", x.wagonIs(0, 4), 1);
            check.due("on the way no more", x.trainIs(0, 3), 0);
        }
        WagonWays x = pair();
        check.due("takes 0", x.train(0, NONE, 1, 0, 0, 1), OUTSIDE);
        check.due("takes 49", x.train(0, NONE, 1, 0, 49, 1), OUTSIDE);
    }

    private static void lengths() {
        check.says("at most LENGTH wagons (1 to 12), of one or two BLOCKS, which are made at the first YARD for the second.");
        for (int length = 1; length <= 12; length++) {
            WagonWays x = pair();
            check.due("length " + length, x.train(0, NONE, EVERY_DAY, 0, 1, length), 0);
            for (int w = 0; w < 13; w++) {
                x.wagon(0, 1);
            }
            x.pass(1);
            check.due("it took", x.trainIs(0, 1), length);
            check.due("left behind", x.yard(0, 0), 13 - length);
            check.due("the last taken", x.wagonIs(length - 1, 1), 0);
            check.due("the first left", x.wagonIs(length, 1), NONE);
        }
        WagonWays x = pair();
        check.due("length 0", x.train(0, NONE, 1, 0, 1, 0), OUTSIDE);
        check.due("length 13", x.train(0, NONE, 1, 0, 1, 13), OUTSIDE);
    }

    private static void oneOrTwoBlocks() {
        check.says("UNKNOWN: BLOCK x, or y (NONE: it has one alone), which are not made alike");
        WagonWays none = new WagonWays();
        check.due("no blocks", none.train(0, NONE, 1, 0, 1, 1), UNKNOWN);
        check.due("no blocks, none", none.train(NONE, NONE, 1, 0, 1, 1), UNKNOWN);
        WagonWays x = Check.withBlocks(3, "A>B:B", "A>B:C", "A>C:C", "C>B:B", "B>A:A");
        int[][] unlike = {{0, 2}, {2, 0}, {0, 3}, {3, 0}, {0, 4}, {4, 0}, {1, 2}, {2, 3}, {3, 4}};
        for (int[] u : unlike) {
            check.due("blocks " + u[0] + " and " + u[1], x.train(u[0], u[1], 1, 0, 1, 1), UNKNOWN);
        }
        check.due("the first is none", x.train(NONE, 0, 1, 0, 1, 1), UNKNOWN);
        check.due("the second behind the last", x.train(0, 5, 1, 0, 1, 1), UNKNOWN);
        check.due("the second below none", x.train(0, -2, 1, 0, 1, 1), UNKNOWN);
        check.due("no train yet", x.count(2), 0);
        check.due("two alike", x.train(0, 1, 1, 0, 1, 12), 0);
        check.due("two alike, turned", x.train(1, 0, 1, 0, 1, 12), 1);
        check.due("the last block alone", x.train(4, NONE, 1, 0, 1, 12), 2);
        check.due("one block twice", x.train(0, 0, 1, 1, 1, 12), 3);
        x.wagon(0, 1);
        x.pass(1);
        x.wagon(0, 1);
        x.wagon(0, 1);
        x.pass(1);
        check.due("taken once each", x.trainIs(3, 1), 2);
    }

    private static void thirtyWagons() {
        check.says("WAGONS (30 at most, numbered) stand at a YARD, run in a TRAIN, or are done; each has a goal.");
        WagonWays x = pair();
        x.train(0, NONE, EVERY_DAY, 0, 1, 12);
        for (int w = 0; w < 30; w++) {
            check.due("wagon " + w, x.wagon(0, 1), w);
            check.due("wagons", x.count(3), w + 1);
        }
        check.due("one more", x.wagon(0, 1), FULL);
        check.due("the last", x.wagonIs(29, 5), 1);
        check.due("behind the last", x.wagonIs(30, 5), UNKNOWN);
        passTo(x, 60);
        check.due("all done", x.count(5), 30);
        check.due("those that are done count too", x.wagon(0, 1), FULL);
        check.due("wagons then", x.count(3), 30);
    }

    private static void sortingLeastAndGreatest() {
        check.says("SORTING takes S HOURS (0 to 12; 2 at first).");
        check.due("at first", new WagonWays().sorting(0), 2);
        for (int s = 0; s <= 12; s++) {
            WagonWays x = Check.withBlocks(3, "A>B:C", "B>C:C");
            check.due("sorting(" + s + ")", x.sorting(s), 2);
            x.train(0, NONE, 1, 0, 3, 1);
            // It comes in at 3; a train an hour ahead of S hours later leaves it, the next one takes it.
            x.train(1, NONE, 1, 3 + s - 1, 10, 1);
            x.train(1, NONE, 1, 3 + s, 10, 1);
            x.wagon(0, 2);
            x.pass(4);
            check.due("ready", x.wagonIs(0, 2), s == 0 ? 13 : 3 + s);
            passTo(x, 24);
            check.due("too early by an hour", x.trainIs(1, 1), 0);
            check.due("just then", x.trainIs(2, 1), 1);
            check.due("came in", x.wagonIs(0, 2), 13 + s);
        }
        WagonWays x = new WagonWays();
        check.due("sorting(12)", x.sorting(12), 2);
        check.due("sorting(13)", x.sorting(13), OUTSIDE);
        check.due("sorting(-1)", x.sorting(-1), OUTSIDE);
        check.due("sorting(0)", x.sorting(0), 12);
        check.due("sorting(0) again", x.sorting(0), 0);
    }

    private static void sortingLeavesWhatStands() {
        check.says("SORTING takes s HOURS: what it took (those that stand are READY as they are). OUTSIDE.");
        WagonWays x = Check.withBlocks(3, "A>B:C");
        x.train(0, NONE, 1, 0, 1, 1);
        x.train(0, NONE, 1, 1, 1, 1);
        x.wagon(0, 2);
        x.wagon(0, 2);
        x.sorting(12);
        x.pass(2);
        x.sorting(0);
        x.pass(1);
        check.due("stood already", x.wagonIs(0, 2), 13);
        check.due("was on the way", x.wagonIs(1, 2), 2);
        x.sorting(5);
        check.due("as it is, the first", x.wagonIs(0, 2), 13);
        check.due("as it is, the second", x.wagonIs(1, 2), 2);
        check.due("ready", x.yard(1, 1), 1);
    }

    private static void clockGoesRound() {
        check.says("THE CLOCK counts HOURS (0 at first; HOUR of a day, day of a week by it).");
        check.due("at first", new WagonWays().count(4), 0);
        WagonWays x = pair();
        x.train(0, NONE, 64, 23, 1, 1);
        x.train(1, NONE, 1, 0, 1, 1);
        passTo(x, 167);
        check.due("ahead of the last hour of a week", x.trainIs(0, 0), 0);
        check.due("the first hour of a week", x.trainIs(1, 0), 1);
        x.pass(1);
        check.due("the last hour of a week", x.trainIs(0, 0), 1);
        check.due("ahead of the next week", x.trainIs(1, 0), 1);
        x.pass(1);
        check.due("the next week", x.trainIs(1, 0), 2);
        passTo(x, 2000);
        // The last hours of weeks are 167, 335, .. 1847; the first ones 0, 168, .. 1848.
        check.due("all last hours", x.trainIs(0, 0), 11);
        check.due("all first hours", x.trainIs(1, 0), 12);
        check.says("Then THE CLOCK is one more.");
        WagonWays y = new WagonWays();
        for (int hour = 1; hour <= 170; hour++) {
            check.due("pass(1)", y.pass(1), hour);
        }
    }

    private static void comesInThenLeaves() {
        check.says("AN HOUR goes by: first, TRAINS that come in at THE CLOCK");
        WagonWays x = Check.withBlocks(3, "B>C:C", "A>B:C");
        x.sorting(0);
        // The train that leaves has the lesser number, and yet the other one comes in first.
        x.train(0, NONE, 1, 5, 2, 1);
        x.train(1, NONE, 1, 0, 5, 1);
        x.wagon(0, 2);
        x.pass(5);
        check.due("on the way", x.wagonIs(0, 1), 1);
        x.pass(1);
        check.due("on at once", x.wagonIs(0, 1), 0);
        check.due("comes in", x.wagonIs(0, 2), 7);
        check.due("trains", x.wagonIs(0, 3), 2);
        // With sorting 1 it waits for the next one.
        WagonWays y = Check.withBlocks(3, "B>C:C", "A>B:C");
        y.sorting(1);
        y.train(0, NONE, 1, 5, 2, 1);
        y.train(1, NONE, 1, 0, 5, 1);
        y.wagon(0, 2);
        y.pass(6);
        check.due("stands", y.wagonIs(0, 0), 1);
        check.due("ready later", y.wagonIs(0, 2), 6);
    }

    private static void twoComeInAtOnce() {
        check.says("TRAINS that come in at THE CLOCK (by number; of one number the one that left first): their wagons stand at the YARD");
        WagonWays x = Check.withBlocks(4, "A>C:D", "B>C:D", "C>D:D");
        // The train of the greater number left first; both come in at 9, and all wagons are ready at 11.
        x.train(1, NONE, 1, 4, 5, 12);
        x.train(0, NONE, 1, 0, 9, 12);
        x.train(2, NONE, 1, 10, 1, 12);
        x.train(2, NONE, 1, 11, 20, 3);
        for (int w = 0; w < 4; w++) {
            x.wagon(w % 2, 3);
        }
        x.pass(9);
        check.due("on the way", x.trainIs(0, 3) + x.trainIs(1, 3), 2);
        x.pass(1);
        check.due("in", x.yard(2, 0), 4);
        check.due("on the way no more", x.trainIs(0, 3) + x.trainIs(1, 3), 0);
        x.pass(2);
        check.due("an hour too early", x.trainIs(2, 1), 0);
        for (int w = 0; w < 4; w++) {
            check.due("alike, by numbers of wagons", x.wagonIs(w, 1), w < 3 ? 3 : NONE);
        }
        // Two runnings of one train: the one that left first comes in first, a day ahead of the other.
        WagonWays y = pair();
        y.train(0, NONE, EVERY_DAY, 0, 48, 1);
        y.wagon(0, 1);
        y.wagon(0, 1);
        passTo(y, 49);
        check.due("the first is in", y.wagonIs(0, 4), 1);
        check.due("the second is not", y.wagonIs(1, 1), 0);
        passTo(y, 73);
        check.due("the second came in a day later", y.wagonIs(1, 2), 72);
        check.due("is done", y.wagonIs(1, 4), 1);
    }

    private static void doneAtItsGoal() {
        check.says("their wagons stand at the YARD, and are READY S HOURS later (done, if it is their goal)");
        WagonWays x = Check.withBlocks(3, "A>B:BC", "B>A:A", "B>C:C");
        x.sorting(4);
        x.train(0, NONE, 1, 0, 6, 2);
        x.wagon(0, 1);
        x.wagon(0, 2);
        x.pass(7);
        check.due("at its goal", x.wagonIs(0, 4), 1);
        check.due("when it came in, not when ready", x.wagonIs(0, 2), 6);
        check.due("stands nowhere", x.wagonIs(0, 0), NONE);
        check.due("not at its goal", x.wagonIs(1, 4), 0);
        check.due("ready later", x.wagonIs(1, 2), 10);
        check.due("stands", x.wagonIs(1, 0), 1);
        check.due("one stands there", x.yard(1, 0), 1);
    }

    private static void trainsByNumber() {
        check.says("then TRAINS that leave on this day at this HOUR, by number: each takes of its first BLOCK, then of its second one");
        WagonWays x = pair();
        x.train(0, NONE, 1, 0, 30, 2);
        x.train(0, NONE, 1, 0, 1, 12);
        for (int w = 0; w < 4; w++) {
            x.wagon(0, 1);
        }
        x.pass(1);
        for (int w = 0; w < 4; w++) {
            check.due("wagon " + w, x.wagonIs(w, 1), w < 2 ? 0 : 1);
        }
    }

    private static void firstBlockThenSecond() {
        for (int length = 1; length <= 7; length++) {
            WagonWays x = Check.withBlocks(4, "A>B:C", "A>B:D", "A>B:B");
            for (int w = 0; w < 3; w++) {
                x.wagon(0, 3);
            }
            x.pass(1);
            for (int w = 0; w < 3; w++) {
                x.wagon(0, 2);
            }
            x.wagon(0, 1);
            x.train(0, 1, 1, 1, 1, length);
            x.pass(1);
            check.due("of both, length " + length, x.trainIs(0, 1), Math.min(6, length));
            for (int i = 0; i < 3; i++) {
                check.due("of the first block", x.wagonIs(3 + i, 1), i < length ? 0 : NONE);
                check.due("of the second block", x.wagonIs(i, 1), i < length - 3 ? 0 : NONE);
            }
            check.due("of neither", x.wagonIs(6, 1), NONE);
        }
    }

    private static void readyAtTheClock() {
        check.says("wagons that are READY (at or ahead of THE CLOCK) and go into it");
        WagonWays x = Check.withBlocks(3, "A>B:C", "B>C:C", "B>C:C/1");
        x.sorting(3);
        x.train(0, NONE, 1, 0, 1, 12);
        x.train(1, NONE, 2, 0, 1, 12);
        x.train(2, NONE, 1, 4, 1, 12);
        x.wagon(0, 2);
        x.pass(2);
        check.due("ready at 4", x.wagonIs(0, 2), 4);
        x.pass(1);
        check.due("not at 3", x.yard(1, 1), 0);
        x.pass(1);
        check.due("at 4", x.yard(1, 1), 1);
        x.pass(1);
        check.due("ready, but it goes into another block", x.trainIs(2, 1), 0);
        passTo(x, 25);
        check.due("ready ahead of the clock", x.trainIs(1, 1), 1);
        // A block that comes later and is of greater rank takes what stands there.
        WagonWays y = Check.withBlocks(3, "A>B:C");
        y.train(0, NONE, EVERY_DAY, 0, 1, 12);
        y.wagon(0, 2);
        Check.block(y, "A>C:C/6");
        y.pass(1);
        check.due("goes into the later block", y.trainIs(0, 1), 0);
    }

    private static void readyLongestFirst() {
        check.says("the one that has been READY longest first, of like ones the least number, as many as LENGTH lets");
        WagonWays x = Check.withBlocks(3, "A>B:BC", "C>A:B");
        x.sorting(6);
        x.train(1, NONE, 1, 0, 1, 1);
        x.wagon(2, 1);
        x.pass(6);
        x.wagon(0, 1);
        x.pass(1);
        x.wagon(0, 2);
        x.wagon(0, 1);
        x.pass(1);
        x.wagon(0, 1);
        // Ready: wagon 0 at 7, 1 at 6, 2 and 3 at 7, 4 at 8.
        int[] order = {1, 0, 2, 3, 4};
        int[] since = {7, 6, 7, 7, 8};
        for (int w = 0; w < 5; w++) {
            check.due("ready " + w, x.wagonIs(w, 2), since[w]);
        }
        for (int hour = 8; hour < 13; hour++) {
            x.train(0, NONE, 1, hour, 20, 1);
        }
        x.pass(5);
        for (int i = 0; i < 5; i++) {
            check.due("wagon " + order[i], x.wagonIs(order[i], 1), 1 + i);
        }
    }

    private static void runsWithoutAny() {
        check.says("it runs also without any; but not, if the YARD that it leaves or goes to is CLOSED on THE CLOCK's day (counted from 0).");
        WagonWays x = pair();
        x.train(0, NONE, EVERY_DAY, 0, 48, 1);
        x.pass(1);
        check.due("left", x.trainIs(0, 0), 1);
        check.due("took none", x.trainIs(0, 1), 0);
        check.due("is on the way", x.trainIs(0, 3), 1);
        check.due("not for a closed yard", x.trainIs(0, 2), 0);
    }

    private static void closedDays() {
        for (int from : new int[] {0, 1, 6, 7, 82, 83}) {
            for (int to : new int[] {from, from + 1, 83, 99}) {
                for (int hour : new int[] {0, 23}) {
                    closedFromTo(from, to, hour);
                }
            }
        }
    }

    private static void closedFromTo(int from, int to, int hour) {
        WagonWays x = pair();
        x.train(0, NONE, EVERY_DAY, hour, 1, 1);
        check.due("close(0, " + from + ", " + to + ")", x.close(0, from, to), 1);
        int left = 0;
        int shut = 0;
        // THE CLOCK goes to 2000, which is day 83's hour 8.
        for (int day = 0; 24 * day + hour < 2000; day++) {
            passTo(x, 24 * day + hour + 1);
            boolean closed = day >= from && day <= to;
            left += closed ? 0 : 1;
            shut += closed ? 1 : 0;
            boolean beside = day == from - 1 || day == from || day == to || day == to + 1;
            if (beside) {
                check.due("left by day " + day + " of " + from + " to " + to, x.trainIs(0, 0), left);
                check.due("shut by day " + day + " of " + from + " to " + to, x.trainIs(0, 2), shut);
            }
        }
        check.due("left in all", x.trainIs(0, 0), left);
        check.due("shut in all", x.trainIs(0, 2), shut);
    }

    private static void closedEitherEnd() {
        for (int closed = 0; closed < 4; closed++) {
            WagonWays x = Check.withBlocks(4, "B>C:C", "C>D:D");
            x.sorting(0);
            x.train(0, NONE, 1, 12, 1, 1);
            x.train(1, NONE, 1, 13, 30, 1);
            x.wagon(1, 2);
            x.wagon(2, 3);
            x.close(closed, 0, 0);
            x.pass(14);
            boolean first = closed == 1 || closed == 2;
            boolean second = closed == 2 || closed == 3;
            check.due("from B to C, closed " + closed, x.trainIs(0, 2), first ? 1 : 0);
            check.due("left", x.trainIs(0, 0), first ? 0 : 1);
            check.due("took", x.trainIs(0, 1), first ? 0 : 1);
            check.due("from C to D, closed " + closed, x.trainIs(1, 2), second ? 1 : 0);
            check.due("left", x.trainIs(1, 0), second ? 0 : 1);
            check.due("stays", x.wagonIs(1, 0), second ? 2 : NONE);
        }
        // A train that is on the way comes in at a closed yard; its own day counts when it leaves, no other.
        WagonWays x = pair();
        x.train(0, NONE, 1, 23, 2, 1);
        x.wagon(0, 1);
        x.close(1, 1, 1);
        x.pass(26);
        check.due("came in at a closed yard", x.wagonIs(0, 4), 1);
    }

    private static void closedDaysAreNotOfAWeek() {
        WagonWays x = pair();
        x.train(0, NONE, 1, 0, 1, 1);
        x.close(0, 7, 7);
        x.pass(1);
        check.due("day 0 is open", x.trainIs(0, 0), 1);
        passTo(x, 169);
        check.due("day 7 is closed", x.trainIs(0, 2), 1);
        check.due("day 7", x.trainIs(0, 0), 1);
        passTo(x, 337);
        check.due("day 14 is open", x.trainIs(0, 0), 2);
    }

    private static void closeTakes() {
        check.says("A YARD is CLOSED from a day to a day (0 to 99, the second not below the first; NONE, NONE: never): 1. UNKNOWN; OUTSIDE.");
        int[][] taken = {{0, 0}, {0, 99}, {99, 99}, {50, 50}, {50, 51}, {98, 99}, {-1, -1}};
        for (int[] t : taken) {
            WagonWays x = pair();
            check.due("close(1, " + t[0] + ", " + t[1] + ")", x.close(1, t[0], t[1]), 1);
        }
        int[][] outside = {{-1, 0}, {0, -1}, {-2, -2}, {-2, -1}, {-1, -2}, {51, 50}, {99, 98}, {0, 100}, {99, 100}, {100, 100}};
        for (int[] o : outside) {
            WagonWays x = pair();
            x.train(0, NONE, EVERY_DAY, 0, 1, 1);
            x.close(1, 0, 0);
            check.due("close(1, " + o[0] + ", " + o[1] + ")", x.close(1, o[0], o[1]), OUTSIDE);
            x.pass(1);
            check.due("closed as it was", x.trainIs(0, 2), 1);
        }
        WagonWays x = pair();
        x.train(0, NONE, EVERY_DAY, 0, 1, 1);
        x.close(0, 0, 99);
        check.due("never, though it was", x.close(0, NONE, NONE), 1);
        x.pass(1);
        check.due("open", x.trainIs(0, 0), 1);
        check.due("the last yard", x.close(1, 1, 1), 1);
        check.due("behind the last yard", x.close(2, 1, 1), UNKNOWN);
        check.due("ahead of the first yard", x.close(-1, 1, 1), UNKNOWN);
        // A yard is closed from one day to one day: the later call counts.
        x.close(1, 2, 2);
        passTo(x, 49);
        check.due("day 1 open, day 2 closed", x.trainIs(0, 0), 2);
        check.due("one closed day", x.trainIs(0, 2), 1);
    }

    private static void passLeastAndGreatest() {
        check.says("n HOURS (1 to 200) go by: THE CLOCK. OUTSIDE; STATE: it would be above 2000.");
        WagonWays x = new WagonWays();
        check.due("pass(0)", x.pass(0), OUTSIDE);
        check.due("pass(201)", x.pass(201), OUTSIDE);
        check.due("pass(1)", x.pass(1), 1);
        check.due("pass(200)", x.pass(200), 201);
        check.due("the clock", x.count(4), 201);
        WagonWays hours = pair();
        hours.train(0, NONE, EVERY_DAY, 0, 1, 1);
        hours.train(0, NONE, EVERY_DAY, 7, 1, 1);
        hours.pass(200);
        check.due("every day's first hour", hours.trainIs(0, 0), 9);
        check.due("day 8's hour 7 is the 200th", hours.trainIs(1, 0), 9);
    }

    private static void clockToTheLast() {
        check.says("(THE CLOCK goes to 2000.)");
        for (int at : new int[] {1799, 1800, 1801, 1999, 2000}) {
            for (int n : new int[] {1, 199, 200}) {
                WagonWays x = new WagonWays();
                passTo(x, at);
                int want = at + n <= 2000 ? at + n : STATE;
                check.due("pass(" + n + ") at " + at, x.pass(n), want);
                check.due("the clock then", x.count(4), want == STATE ? at : want);
                check.due("pass(201) at " + at, x.pass(201), OUTSIDE);
                check.due("pass(0) at " + at, x.pass(0), OUTSIDE);
            }
        }
        WagonWays x = pair();
        // Hour 1999 is day 83's hour 7, of a week's day 6: it goes by; hour 2000 does not.
        x.train(0, NONE, 64, 7, 1, 1);
        x.train(0, NONE, 64, 8, 1, 1);
        passTo(x, 2000);
        check.due("the last hour goes by", x.trainIs(0, 0), 12);
        check.due("the next one does not", x.trainIs(1, 0), 11);
        check.due("on the way for good", x.trainIs(0, 3), 1);
        check.due("a wagon yet", x.wagon(0, 1), 0);
        check.due("ready at 2000", x.wagonIs(0, 2), 2000);
        check.due("it is ready", x.yard(0, 1), 1);
    }

    private static void readyAtOnce() {
        check.says("A wagon put at a YARD is READY at once.");
        WagonWays x = pair();
        x.sorting(12);
        x.train(0, NONE, EVERY_DAY, 5, 1, 1);
        x.pass(5);
        x.wagon(0, 1);
        check.due("since", x.wagonIs(0, 2), 5);
        check.due("ready", x.yard(0, 1), 1);
        x.pass(1);
        check.due("taken in that hour", x.wagonIs(0, 1), 0);
        x.wagon(0, 1);
        x.pass(1);
        check.due("an hour too late", x.wagonIs(1, 0), 0);
    }

    private static void wagonIs(WagonWays x, String when, int... want) {
        check.due("one below, " + when, x.wagonIs(0, -1), OUTSIDE);
        for (int what = 0; what <= 5; what++) {
            check.due("wagonIs(0, " + what + ") " + when, x.wagonIs(0, what), want[what]);
        }
        check.due("one above, " + when, x.wagonIs(0, 6), OUTSIDE);
    }

    private static void wagonTells() {
        check.says("Of a WAGON: what = 0 where it stands (NONE: it runs, or is done), 1 the TRAIN in which it runs (NONE), "
            + "2 since which HOUR it is, or will be, READY, or comes in (of one that is done: when it came in), "
            + "3 how many TRAINS it has run in, 4 whether it is done (1, 0), 5 its goal.");
        check.due("no wagon", new WagonWays().wagonIs(0, 0), UNKNOWN);
        WagonWays x = Check.withBlocks(3, "A>B:C", "B>C:C");
        x.train(0, NONE, 1, 0, 1, 1);
        x.train(1, NONE, 1, 3, 48, 1);
        x.wagon(0, 2);
        wagonIs(x, "put", 0, NONE, 0, 0, 0, 2);
        x.pass(1);
        wagonIs(x, "runs", NONE, 0, 1, 1, 0, 2);
        x.pass(1);
        wagonIs(x, "stands, not ready", 1, NONE, 3, 1, 0, 2);
        x.pass(1);
        wagonIs(x, "stands, ready", 1, NONE, 3, 1, 0, 2);
        x.pass(1);
        wagonIs(x, "runs again", NONE, 1, 51, 2, 0, 2);
        x.pass(47);
        wagonIs(x, "ahead of its coming in", NONE, 1, 51, 2, 0, 2);
        x.pass(1);
        wagonIs(x, "is done", NONE, NONE, 51, 2, 1, 2);
        passTo(x, 2000);
        wagonIs(x, "is done for good", NONE, NONE, 51, 2, 1, 2);
    }

    private static void trainIs(WagonWays x, String when, int... want) {
        check.due("one below, " + when, x.trainIs(0, -1), OUTSIDE);
        for (int what = 0; what <= 3; what++) {
            check.due("trainIs(0, " + what + ") " + when, x.trainIs(0, what), want[what]);
        }
        check.due("one above, " + when, x.trainIs(0, 4), OUTSIDE);
    }

    private static void trainTells() {
        check.says("Of a TRAIN: what = 0 how often it left, 1 how many wagons it took in all, "
            + "2 how often it did not run for a CLOSED YARD, 3 how many runnings of it are on the way. UNKNOWN; OUTSIDE.");
        check.due("no train", new WagonWays().trainIs(0, 0), UNKNOWN);
        WagonWays x = pair();
        x.train(0, NONE, EVERY_DAY, 0, 48, 12);
        trainIs(x, "at first", 0, 0, 0, 0);
        for (int w = 0; w < 30; w++) {
            x.wagon(0, 1);
        }
        x.pass(1);
        trainIs(x, "left once", 1, 12, 0, 1);
        passTo(x, 25);
        trainIs(x, "left twice", 2, 24, 0, 2);
        passTo(x, 48);
        trainIs(x, "ahead of coming in", 2, 24, 0, 2);
        x.pass(1);
        trainIs(x, "came in and left", 3, 30, 0, 2);
        x.close(1, 3, 3);
        passTo(x, 73);
        trainIs(x, "closed a day", 3, 30, 1, 1);
        passTo(x, 97);
        trainIs(x, "open again", 4, 30, 1, 1);
        // Runnings of 25 hours: two are on the way for an hour alone.
        WagonWays y = pair();
        y.train(0, NONE, EVERY_DAY, 0, 25, 1);
        passTo(y, 25);
        trainIs(y, "two for an hour", 2, 0, 0, 2);
        y.pass(1);
        trainIs(y, "one again", 2, 0, 0, 1);
        WagonWays z = pair();
        z.train(0, NONE, EVERY_DAY, 0, 24, 1);
        passTo(z, 25);
        trainIs(z, "one in, one out", 2, 0, 0, 1);
    }

    private static void yardTells() {
        check.says("How many WAGONS stand at a YARD (what = 0), of these READY (1). UNKNOWN; OUTSIDE.");
        WagonWays x = Check.withBlocks(3, "A>B:C");
        for (int y = 0; y < 3; y++) {
            check.due("none at first", x.yard(y, 0), 0);
            check.due("none ready at first", x.yard(y, 1), 0);
            check.due("one below", x.yard(y, -1), OUTSIDE);
            check.due("one above", x.yard(y, 2), OUTSIDE);
        }
        for (int w = 0; w < 30; w++) {
            x.wagon(0, 2);
        }
        check.due("all", x.yard(0, 0), 30);
        check.due("all ready", x.yard(0, 1), 30);
        x.train(0, NONE, 1, 0, 1, 12);
        x.pass(1);
        check.due("those that run stand nowhere", x.yard(0, 0) + x.yard(1, 0), 18);
        x.pass(1);
        check.due("in", x.yard(1, 0), 12);
        check.due("not ready", x.yard(1, 1), 0);
        x.pass(1);
        check.due("ready", x.yard(1, 1), 12);
        check.due("behind the last yard", x.yard(3, 0), UNKNOWN);
        check.due("ahead of the first yard", x.yard(-1, 0), UNKNOWN);
    }

    private static void duties() {
        check.says("What = 0 how many DUTIES, 1 FEWEST CREWS, 2 HOURS of all DUTIES. OUTSIDE.");
        WagonWays x = pair();
        for (int what = 0; what <= 2; what++) {
            check.due("no trains, crews(" + what + ")", x.crews(what), 0);
        }
        check.due("crews(-1)", x.crews(-1), OUTSIDE);
        check.due("crews(3)", x.crews(3), OUTSIDE);
        x.train(0, NONE, 1, 0, 1, 1);
        for (int what = 0; what <= 2; what++) {
            check.due("one duty of an hour, crews(" + what + ")", x.crews(what), 1);
        }
        for (int t = 1; t < 12; t++) {
            x.train(0, NONE, EVERY_DAY, 2 * t, 48, 1);
        }
        check.due("many duties", x.crews(0), 1 + 77);
        check.due("none comes back", x.crews(1), 1 + 77);
        check.due("hours", x.crews(2), 1 + 77 * 48);
        x.close(0, 0, 99);
        x.pass(200);
        check.due("by its days, closed or not", x.crews(0), 78);
        WagonWays all = pair();
        for (int t = 0; t < 12; t++) {
            all.train(t % 2, NONE, EVERY_DAY, 0, 48, 1);
        }
        check.due("84 duties", all.crews(0), 84);
        check.due("hours of 84", all.crews(2), 84 * 48);
        // Six each way a day; a crew is free on the third day's hour 8, thus on the fourth day again.
        check.due("crews of 84", all.crews(1), 36);
    }

    private static void restLeastAndGreatest() {
        check.says("if this begins at the YARD where that ended, at least REST HOURS (0 to 48; 8 at first) behind its end.");
        check.due("at first", new WagonWays().rest(0), 8);
        for (int rest : new int[] {0, 1, 8, 47, 48}) {
            for (int late = -1; late <= 1; late++) {
                int begins = 3 + rest + late;
                WagonWays x = pair();
                check.due("rest(" + rest + ")", x.rest(rest), 8);
                x.train(0, NONE, 1, 1, 2, 1);
                x.train(1, NONE, 1 << begins / 24, begins % 24, 1, 1);
                check.due("rest " + rest + ", " + late + " later", x.crews(1), late < 0 ? 2 : 1);
            }
        }
        for (int late = -1; late <= 0; late++) {
            WagonWays x = pair();
            x.train(0, NONE, 1, 1, 2, 1);
            x.train(1, NONE, 1, 11 + late, 1, 1);
            check.due("rest as at first, " + late + " later", x.crews(1), late < 0 ? 2 : 1);
        }
        WagonWays x = new WagonWays();
        check.due("rest(48)", x.rest(48), 8);
        check.due("rest(49)", x.rest(49), OUTSIDE);
        check.due("rest(-1)", x.rest(-1), OUTSIDE);
        check.due("rest(0)", x.rest(0), 48);
        check.due("rest(0) again", x.rest(0), 0);
    }

    private static void crewsAtYards() {
        check.says("FEWEST: with how few CREWS all DUTIES are done (each by one).");
        WagonWays x = Check.withBlocks(4, "A>B:B", "C>D:D", "B>C:C");
        x.rest(0);
        x.train(0, NONE, 1, 0, 1, 1);
        x.train(1, NONE, 1, 5, 1, 1);
        check.due("not from another yard", x.crews(1), 2);
        x.train(2, NONE, 1, 2, 3, 1);
        check.due("one does all three", x.crews(1), 1);
        x.train(1, NONE, 1, 5, 1, 1);
        check.due("each duty behind one alone", x.crews(1), 2);
        // Which crew goes on does not matter for the first, but none is left over for two.
        WagonWays y = Check.withBlocks(2, "A>B:B", "B>A:A");
        y.rest(0);
        y.train(0, NONE, 1, 0, 1, 1);
        y.train(0, NONE, 1, 0, 10, 1);
        y.train(1, NONE, 1, 9, 1, 1);
        y.train(1, NONE, 1, 10, 1, 1);
        check.due("the one that is back early goes early", y.crews(1), 2);
        y.train(1, NONE, 1, 23, 1, 1);
        check.due("a third needs a third", y.crews(1), 3);
    }

    private static void crewsWithinOneWeek() {
        check.says("within one week from day 0's HOUR 0, each running of a TRAIN by its days is a DUTY, from when it leaves to when it comes in.");
        WagonWays x = Check.withBlocks(3, "A>B:B", "B>C:C");
        x.rest(0);
        x.train(0, NONE, 64, 23, 1, 1);
        x.train(1, NONE, 1, 0, 1, 1);
        // It ends at hour 168; the week's hour 0 is not behind it.
        check.due("the week does not go round", x.crews(1), 2);
        WagonWays y = pair();
        y.rest(0);
        y.train(0, NONE, 64, 22, 1, 1);
        y.train(1, NONE, 64, 23, 48, 1);
        check.due("in the last hour", y.crews(1), 1);
        check.due("with all its hours", y.crews(2), 49);
        check.due("two duties", y.crews(0), 2);
        y.pass(100);
        check.due("the clock does not matter", y.crews(1), 1);
    }
}
