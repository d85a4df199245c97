import java.io.IOException;

/** Part 3 of the terms and promises 23 to 27: each sentence that names a boundary, at it and beside it. */
public final class SortingBoundsTest {
    private static final int UNKNOWN = -101, OUTSIDE = -102, STATE = -103, FULL = -104;
    private static final Check check = new Check("SortingBoundsTest");

    public static void main(String[] args) throws IOException {
        check.reads(args);
        rowUpToSixteen();
        driveEmptyAndFull();
        marksLeastAndGreatest();
        likeMarks();
        numbers();
        numberPlaces();
        stepsJustAbove();
        stepsTracks();
        standsBehindNone();
        standsBehindAll();
        standsStepByStep();
        standsPlaces();
        rowChangedBetween();
        check.end();
    }

    private static WagonWays row(int... marks) {
        WagonWays x = new WagonWays();
        for (int mark : marks) {
            x.roll(mark);
        }
        return x;
    }

    /** A row whose greatest number is so many: marks fall from it to 0. */
    private static WagonWays falling(int greatest) {
        WagonWays x = new WagonWays();
        for (int mark = greatest; mark >= 0; mark--) {
            x.roll(mark);
        }
        return x;
    }

    private static void rowUpToSixteen() {
        check.says("A ROW of 1 to 16 wagons has marks 0 to 15.");
        WagonWays x = new WagonWays();
        check.due("none at first", x.count(7), 0);
        for (int i = 1; i <= 16; i++) {
            check.due("roll", x.roll(i - 1), i);
            check.due("how many", x.count(7), i);
        }
        check.due("a 17th", x.roll(0), FULL);
        check.due("how many then", x.count(7), 16);
        check.due("the last one", x.number(15), 0);
    }

    private static void driveEmptyAndFull() {
        check.says("THE ROW becomes empty: how many there were.");
        WagonWays x = new WagonWays();
        check.due("of none", x.drive(), 0);
        x.roll(1);
        check.due("of one", x.drive(), 1);
        for (int i = 0; i < 16; i++) {
            x.roll(15);
        }
        check.due("of a full one", x.drive(), 16);
        check.due("again", x.drive(), 0);
        check.due("room again", x.roll(0), 1);
        check.due("no second one", x.number(1), UNKNOWN);
    }

    private static void marksLeastAndGreatest() {
        check.says("A wagon comes behind THE ROW with a mark: how many. OUTSIDE; FULL.");
        WagonWays x = new WagonWays();
        check.due("roll(-1)", x.roll(-1), OUTSIDE);
        check.due("roll(16)", x.roll(16), OUTSIDE);
        check.due("how many", x.count(7), 0);
        check.due("roll(15)", x.roll(15), 1);
        check.due("roll(0)", x.roll(0), 2);
        check.due("the greatest mark stands last", x.stands(2, 1, 1), 0);
        check.due("the least mark stands first", x.stands(2, 1, 0), 1);
        WagonWays full = new WagonWays();
        for (int i = 0; i < 16; i++) {
            full.roll(0);
        }
        check.due("outside ahead of full", full.roll(16), OUTSIDE);
        check.due("outside below ahead of full", full.roll(-1), OUTSIDE);
        check.due("full", full.roll(15), FULL);
    }

    private static void likeMarks() {
        check.says("they are to stand by marks, the least first; of like marks as they stood.");
        WagonWays like = row(7, 7, 7, 7, 7, 7, 7, 7, 7, 7, 7, 7, 7, 7, 7, 7);
        check.due("no step", like.steps(2), 0);
        for (int i = 0; i < 16; i++) {
            check.due("number of like ones", like.number(i), 0);
            check.due("like ones as they stood", like.stands(2, 0, i), i);
        }
        WagonWays x = row(9, 4, 9, 4, 9, 4);
        int[] want = {1, 3, 5, 0, 2, 4};
        for (int i = 0; i < 6; i++) {
            check.due("like ones behind all steps", x.stands(2, 1, i), want[i]);
        }
    }

    private static void numbers() {
        check.says("NUMBERS: going along that order, the first wagon has NUMBER 0; each next one the same as the one ahead of it, "
            + "if it stands behind that in the ROW, else one more.");
        check.due("one alone", row(15).number(0), 0);
        WagonWays rising = row(0, 1, 2, 3, 4, 5, 6, 7, 8, 9, 10, 11, 12, 13, 14, 15);
        WagonWays falling = falling(15);
        for (int i = 0; i < 16; i++) {
            check.due("rising", rising.number(i), 0);
            check.due("falling", falling.number(i), 15 - i);
        }
        // The order is by places 2, 4, 0, 3, 1: numbers 0, 0, 1, 1, 2.
        WagonWays x = row(1, 3, 0, 2, 0);
        int[] want = {1, 2, 0, 1, 0};
        for (int i = 0; i < 5; i++) {
            check.due("number(" + i + ")", x.number(i), want[i]);
        }
    }

    private static void numberPlaces() {
        check.says("NUMBER of the i-th of THE ROW. UNKNOWN.");
        check.due("an empty row", new WagonWays().number(0), UNKNOWN);
        for (int many = 1; many <= 16; many++) {
            WagonWays x = falling(many - 1);
            check.due("one below", x.number(-1), UNKNOWN);
            check.due("the first", x.number(0), many - 1);
            check.due("the last", x.number(many - 1), 0);
            check.due("one above", x.number(many), UNKNOWN);
        }
    }

    private static void stepsJustAbove() {
        check.says("STEPS: the least k so that T to the k is above the greatest NUMBER.");
        for (int greatest = 0; greatest <= 15; greatest++) {
            WagonWays x = falling(greatest);
            for (int tracks = 2; tracks <= 8; tracks++) {
                int k = 0;
                while (Math.pow(tracks, k) <= greatest) {
                    k++;
                }
                check.due("greatest " + greatest + " by " + tracks, x.steps(tracks), k);
            }
        }
        check.due("1 is not above 1", falling(1).steps(2), 1);
        check.due("4 is above 3", falling(3).steps(2), 2);
        check.due("4 is not above 4", falling(4).steps(2), 3);
        check.due("8 is not above 8", falling(8).steps(8), 2);
        check.due("8 is above 7", falling(7).steps(8), 1);
        check.due("16 is above 15", falling(15).steps(2), 4);
        check.due("1 is above 0", falling(0).steps(2), 0);
    }

    private static void stepsTracks() {
        check.says("SORTED by T TRACKS (2 to 8)");
        WagonWays x = falling(3);
        check.due("one track", x.steps(1), OUTSIDE);
        check.due("two tracks", x.steps(2), 2);
        check.due("eight tracks", x.steps(8), 1);
        check.due("nine tracks", x.steps(9), OUTSIDE);
        check.due("no track", x.steps(0), OUTSIDE);
        check.due("one track, places", x.stands(1, 0, 0), OUTSIDE);
        check.due("two tracks, places", x.stands(2, 0, 0), 0);
        check.due("eight tracks, places", x.stands(8, 0, 0), 0);
        check.due("nine tracks, places", x.stands(9, 0, 0), OUTSIDE);
        check.says("STEPS by T TRACKS. OUTSIDE; STATE: THE ROW is empty.");
        WagonWays empty = new WagonWays();
        check.due("empty and one track", empty.steps(1), OUTSIDE);
        check.due("empty and two tracks", empty.steps(2), STATE);
        check.due("empty and eight tracks", empty.steps(8), STATE);
        check.due("empty and nine tracks", empty.steps(9), OUTSIDE);
    }

    private static void standsBehindNone() {
        check.says("Behind STEP k (0: none done yet) of SORTING by T TRACKS, which wagon (by its place in THE ROW) stands at place i.");
        WagonWays x = falling(15);
        for (int tracks = 2; tracks <= 8; tracks++) {
            for (int i = 0; i < 16; i++) {
                check.due("stands(" + tracks + ", 0, " + i + ")", x.stands(tracks, 0, i), i);
            }
        }
    }

    private static void standsBehindAll() {
        int[] marks = {5, 3, 9, 3, 1, 0, 9, 2, 7, 5, 4, 4, 8, 15, 6, 11};
        int[] sorted = {5, 4, 7, 1, 3, 10, 11, 0, 9, 14, 8, 12, 2, 6, 15, 13};
        for (int tracks = 2; tracks <= 8; tracks++) {
            WagonWays x = row(marks);
            int steps = x.steps(tracks);
            for (int i = 0; i < 16; i++) {
                check.due("behind all by " + tracks + " at " + i, x.stands(tracks, steps, i), sorted[i]);
            }
            check.due("behind one more", x.stands(tracks, steps + 1, 0), OUTSIDE);
            check.due("ahead of none", x.stands(tracks, -1, 0), OUTSIDE);
        }
    }

    private static void standsStepByStep() {
        check.says("roll on TRACKS by the i-th figure of their NUMBERS to base T (the lowest first), behind those that are there; "
            + "then TRACK 0's wagons, TRACK 1's, .. are the ROW.");
        // Places 0 to 4 have numbers 4, 3, 2, 1, 0: to base 2 100, 011, 010, 001, 000; to base 3 11, 10, 02, 01, 00.
        WagonWays x = falling(4);
        int[][] byTwo = {{0, 1, 2, 3, 4}, {0, 2, 4, 1, 3}, {0, 4, 3, 2, 1}, {4, 3, 2, 1, 0}};
        int[][] byThree = {{0, 1, 2, 3, 4}, {1, 4, 0, 3, 2}, {4, 3, 2, 1, 0}};
        for (int i = 0; i < 5; i++) {
            for (int k = 0; k <= 3; k++) {
                check.due("by two, step " + k + " at " + i, x.stands(2, k, i), byTwo[k][i]);
            }
            for (int k = 0; k <= 2; k++) {
                check.due("by three, step " + k + " at " + i, x.stands(3, k, i), byThree[k][i]);
            }
        }
    }

    private static void standsPlaces() {
        check.says("UNKNOWN: i; OUTSIDE: tracks, k (0 to STEPS).");
        for (int many = 1; many <= 16; many++) {
            WagonWays x = falling(many - 1);
            check.due("one below", x.stands(2, 0, -1), UNKNOWN);
            check.due("the last", x.stands(2, 0, many - 1), many - 1);
            check.due("one above", x.stands(2, 0, many), UNKNOWN);
            check.due("one above, outside too", x.stands(9, 9, many), UNKNOWN);
        }
        WagonWays sorted = row(1, 2);
        check.due("no step is to be done", sorted.stands(2, 0, 1), 1);
        check.due("one is too many", sorted.stands(2, 1, 1), OUTSIDE);
        check.due("an empty row", new WagonWays().stands(2, 0, 0), UNKNOWN);
        check.due("an empty row, outside too", new WagonWays().stands(1, 1, 0), UNKNOWN);
    }

    private static void rowChangedBetween() {
        check.says("THE ROW becomes empty: how many there were.");
        WagonWays x = row(1);
        check.due("one", x.steps(2), 0);
        x.roll(0);
        check.due("two", x.steps(2), 1);
        check.due("the first then", x.number(0), 1);
        x.drive();
        x.roll(3);
        x.roll(4);
        check.due("anew", x.number(0), 0);
        check.due("anew, steps", x.steps(2), 0);
    }
}
