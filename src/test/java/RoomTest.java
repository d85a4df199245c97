import java.lang.management.ManagementFactory;

/** All calls of a run live in one room: an object has all its rows at once, and its calls make no more. */
public final class RoomTest {
    private static final Check check = new Check("RoomTest");
    private static final com.sun.management.ThreadMXBean meter =
        (com.sun.management.ThreadMXBean) ManagementFactory.getThreadMXBean();

    public static void main(String[] args) {
        // Once without looking, so that what the machine loads is loaded.
        all(new WagonWays());
        long before = made();
        WagonWays x = new WagonWays();
        long ofObject = made() - before;
        check.isTrue("an object is small: " + ofObject + " bytes", ofObject < 32000);
        before = made();
        for (int i = 0; i < 10; i++) {
            all(x);
        }
        long ofCalls = made() - before;
        check.isTrue("calls make no objects: " + ofCalls + " bytes", ofCalls < 1000);
        check.end();
    }

    private static long made() {
        return meter.getThreadAllocatedBytes(Thread.currentThread().getId());
    }

    private static void all(WagonWays x) {
        x.land(4);
        x.letters(0x4443423A423E41L);
        x.good();
        x.block();
        x.letters(0x44433A433E42L);
        x.block();
        x.letters(0x41L);
        x.blank();
        x.miles(0, 1, 5);
        x.far(0, 3);
        x.about(0, 2);
        x.goes(0, 1);
        x.way(0, 2, 1);
        x.lost();
        trains(x);
        x.roll(5);
        x.roll(3);
        x.number(0);
        x.steps(2);
        x.stands(2, 1, 0);
        x.drive();
        nets(x);
        x.leg(10, 5);
        x.share(99, 0);
        x.promise(900);
        x.change(1, 0);
        x.stay();
        x.count(5);
        x.digest();
    }

    private static void trains(WagonWays x) {
        x.train(0, -1, 127, 1, 5, 3);
        x.train(1, -1, 127, 9, 5, 3);
        x.wagon(0, 1);
        x.wagon(0, 2);
        x.sorting(1);
        x.close(3, 0, 9);
        x.pass(200);
        x.wagonIs(0, 2);
        x.trainIs(0, 3);
        x.yard(1, 0);
        x.rest(5);
        x.crews(1);
    }

    private static void nets(WagonWays x) {
        x.load(0, 3, 5);
        x.load(0, 1, 5);
        x.tracks(0, 3);
        x.price(0, 7);
        x.cost(2);
        x.net(0);
        x.net(2);
        x.empties(0, 0, 20);
        x.empties(1, 1, -5);
        x.empties(2, 2, -7);
        x.least();
    }
}
