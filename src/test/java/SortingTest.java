/** Promises 23 to 27: a row sorted over few tracks. */
public final class SortingTest {
    private static final int LOW = Integer.MIN_VALUE;
    private static final int HIGH = Integer.MAX_VALUE;
    private static final Check check = new Check("SortingTest");

    public static void main(String[] args) {
        drive();
        roll();
        number();
        steps();
        stands();
        check.end();
    }

    private static WagonWays row(int... marks) {
        WagonWays x = new WagonWays();
        for (int mark : marks) {
            x.roll(mark);
        }
        return x;
    }

    private static int[] fallingMarks() {
        int[] marks = new int[16];
        for (int i = 0; i < 16; i++) {
            marks[i] = 15 - i;
        }
        return marks;
    }

    private static void drive() {
        WagonWays x = row(3, 1, 2);
        check.due("drive", x.drive(), 3);
        check.due("drive of none", x.drive(), 0);
        check.due("row is empty", x.count(7), 0);
        check.due("a new row", x.roll(9), 1);
        check.due("its number", x.number(0), 0);
    }

    private static void roll() {
        WagonWays x = new WagonWays();
        check.due("first", x.roll(0), 1);
        check.due("second", x.roll(15), 2);
        for (int mark : new int[] {-1, 16, LOW, HIGH}) {
            check.refused(x, "roll outside", () -> x.roll(mark), WagonWays.OUTSIDE);
        }
        for (int i = 3; i <= 16; i++) {
            check.due("roll " + i, x.roll(i - 1), i);
        }
        check.refused(x, "roll full", () -> x.roll(1), WagonWays.FULL);
        check.refused(x, "roll outside ahead of full", () -> x.roll(16), WagonWays.OUTSIDE);
    }

    private static void number() {
        WagonWays x = row(2, 0, 2, 1, 0, 1);
        // The order wanted: places 1, 4 (marks 0), 3, 5 (marks 1), 0, 2 (marks 2).
        int[] want = {2, 0, 2, 1, 0, 1};
        for (int i = 0; i < 6; i++) {
            check.due("number(" + i + ")", x.number(i), want[i]);
        }
        WagonWays along = row(1, 5, 5, 9);
        for (int i = 0; i < 4; i++) {
            check.due("sorted already", along.number(i), 0);
        }
        WagonWays falling = row(fallingMarks());
        for (int i = 0; i < 16; i++) {
            check.due("falling", falling.number(i), 15 - i);
        }
        for (int i : new int[] {-1, 6, 16, LOW, HIGH}) {
            check.refused(x, "number unknown", () -> x.number(i), WagonWays.UNKNOWN);
        }
        check.due("number of an empty row", new WagonWays().number(0), WagonWays.UNKNOWN);
    }

    private static void steps() {
        WagonWays falling = row(fallingMarks());
        int[] want = {4, 3, 2, 2, 2, 2, 2};
        for (int tracks = 2; tracks <= 8; tracks++) {
            check.due("steps(" + tracks + ")", falling.steps(tracks), want[tracks - 2]);
        }
        WagonWays two = row(2, 1, 0);
        check.due("greatest 2 by 2", two.steps(2), 2);
        check.due("greatest 2 by 3", two.steps(3), 1);
        check.due("greatest 1 by 2", row(1, 0).steps(2), 1);
        check.due("greatest 0", row(0, 1).steps(2), 0);
        check.due("one wagon", row(7).steps(8), 0);
        WagonWays empty = new WagonWays();
        for (int tracks : new int[] {1, 0, -1, 9, LOW, HIGH}) {
            check.refused(two, "steps outside", () -> two.steps(tracks), WagonWays.OUTSIDE);
            check.refused(empty, "steps outside ahead of state", () -> empty.steps(tracks), WagonWays.OUTSIDE);
        }
        check.refused(empty, "steps of none", () -> empty.steps(2), WagonWays.STATE);
    }

    private static void stands() {
        WagonWays x = row(2, 0, 2, 1, 0, 1);
        // Numbers 2 0 2 1 0 1; by two tracks: the lowest figure first, then the second.
        int[][] want = {{0, 1, 2, 3, 4, 5}, {0, 1, 2, 4, 3, 5}, {1, 4, 3, 5, 0, 2}};
        for (int k = 0; k <= 2; k++) {
            for (int i = 0; i < 6; i++) {
                check.due("stands(2, " + k + ", " + i + ")", x.stands(2, k, i), want[k][i]);
            }
        }
        for (int i = 0; i < 6; i++) {
            check.due("stands(3, 1, " + i + ")", x.stands(3, 1, i), want[2][i]);
        }
        check.due("eight tracks", x.stands(8, 1, 0), 1);
        for (int i : new int[] {-1, 6, LOW, HIGH}) {
            check.refused(x, "stands unknown", () -> x.stands(2, 0, i), WagonWays.UNKNOWN);
            check.refused(x, "stands unknown ahead of outside", () -> x.stands(1, 9, i), WagonWays.UNKNOWN);
        }
        for (int tracks : new int[] {1, 0, -1, 9, LOW, HIGH}) {
            check.refused(x, "stands outside tracks", () -> x.stands(tracks, 0, 0), WagonWays.OUTSIDE);
        }
        for (int k : new int[] {-1, 3, LOW, HIGH}) {
            check.refused(x, "stands outside k", () -> x.stands(2, k, 0), WagonWays.OUTSIDE);
        }
        check.refused(x, "stands outside k by 3", () -> x.stands(3, 2, 0), WagonWays.OUTSIDE);
        check.due("stands in an empty row", new WagonWays().stands(2, 0, 0), WagonWays.UNKNOWN);
    }
}
