import java.util.ArrayList;
import java.util.List;

/** Promises 40 and 41: count and digest. */
public final class ToldTest {
    private static final Check check = new Check("ToldTest");

    public static void main(String[] args) {
        count();
        digestAtFirst();
        digestOfAll();
        digestSeesEach();
        check.end();
    }

    private static WagonWays busy() {
        WagonWays x = Check.withBlocks(5, "A>B:BCE/7", "B>C:CE", "C>E:E");
        x.miles(1, 3, 44);
        x.train(0, -1, 127, 1, 3, 2);
        x.train(1, -1, 127, 8, 20, 2);
        x.wagon(0, 1);
        x.wagon(0, 4);
        x.wagon(0, 2);
        x.wagon(3, 0);
        x.pass(30);
        x.roll(3);
        x.roll(9);
        x.roll(0);
        x.load(0, 4, 12);
        x.load(4, 0, 13);
        x.tracks(2, 6);
        x.empties(4, 2, -9);
        x.empties(0, 1, 9);
        x.leg(12, 3);
        x.leg(13, 4);
        Check.write(x, "hello A>B");
        x.change(1, 0);
        x.change(1, 0);
        return x;
    }

    private static void count() {
        WagonWays x = busy();
        // Wagon 0 came to B at 4; 1 came to C, 2 to B at 28; 3 has no train.
        int[] want = {5, 3, 2, 4, 30, 1, 0, 3, 2, 9, 2};
        for (int what = 0; what < want.length; what++) {
            check.due("count(" + what + ")", x.count(what), want[what]);
        }
        for (int what : new int[] {-1, 11, Integer.MIN_VALUE, Integer.MAX_VALUE}) {
            check.refused(x, "count outside", () -> x.count(what), WagonWays.OUTSIDE);
        }
        WagonWays runs = Check.withBlocks(2, "A>B:B");
        runs.train(0, -1, 1, 0, 2, 2);
        runs.wagon(0, 1);
        runs.wagon(0, 1);
        runs.wagon(0, 1);
        runs.pass(1);
        check.due("two run", runs.count(6), 2);
        check.due("none done", runs.count(5), 0);
        runs.pass(2);
        check.due("none run", runs.count(6), 0);
        check.due("two done", runs.count(5), 2);
    }

    private static long fold(List<Integer> numbers) {
        long h = 229;
        for (int number : numbers) {
            h = 31 * h + number;
        }
        return h;
    }

    private static void add(List<Integer> numbers, int... more) {
        for (int m : more) {
            numbers.add(m);
        }
    }

    private static void digestAtFirst() {
        List<Integer> numbers = new ArrayList<>();
        add(numbers, 4, 10, 10, 10, 10, 10, 10, 0);
        add(numbers, new int[16]);
        add(numbers, 2, 2, 2, 2);
        add(numbers, new int[12]);
        add(numbers, 0);
        check.due("digest at first", new WagonWays().digest(), fold(numbers));
    }

    private static void digestOfAll() {
        WagonWays x = busy();
        List<Integer> numbers = new ArrayList<>();
        add(numbers, 5, 10, 10, 10, 10, 10, 44, 10, 10, 10, 10);
        add(numbers, 0, 1, 22, 7, 1, 2, 20, 5, 2, 4, 16, 5);
        for (int t = 0; t < 2; t++) {
            for (int what = 0; what < 4; what++) {
                add(numbers, x.trainIs(t, what));
            }
        }
        for (int w = 0; w < 4; w++) {
            for (int what = 0; what < 6; what++) {
                add(numbers, x.wagonIs(w, what));
            }
        }
        add(numbers, 30, 3, 9, 0);
        int[] loads = new int[25];
        loads[4] = 12;
        loads[20] = 13;
        add(numbers, loads);
        add(numbers, 2, 2, 6, 2, 2);
        int[] empties = new int[15];
        empties[14] = -9;
        empties[1] = 9;
        add(numbers, empties);
        add(numbers, 12, 3, 13, 4);
        for (char letter : "hello A>B".toCharArray()) {
            add(numbers, letter);
        }
        add(numbers, 2);
        check.due("digest of all", x.digest(), fold(numbers));
        check.due("digest changes nothing", x.digest(), fold(numbers));
    }

    private static void digestSeesEach() {
        WagonWays x = busy();
        long before = x.digest();
        x.sorting(5);
        x.close(0, 1, 2);
        x.rest(3);
        x.price(0, 3);
        x.price(1, 3);
        check.due("not told", x.digest(), before);
        x.roll(0);
        check.isTrue("a roll is told", x.digest() != before);
    }
}
