import com.sun.management.ThreadMXBean;
import java.lang.management.ManagementFactory;

/** What objects and calls put into the one room in which all calls of a run live. */
public final class RoomTests {
    private static final int CALLS = 512;
    private static final int CALLS_OF_YARD = 100;
    private static final long MOST_BYTES_OF_AN_OBJECT = 100_000;
    /** Small beside 7.3 million fields and elements; the machine that measures may make a little of its own. */
    private static final long MOST_BYTES_OF_A_RUN = 100_000;

    private static final ThreadMXBean THREADS = (ThreadMXBean) ManagementFactory.getThreadMXBean();

    private final Checks checks = new Checks();

    public static void main(String[] args) {
        RoomTests tests = new RoomTests();
        run(full());
        tests.object();
        tests.calls();
        tests.checks.finish("RoomTests");
    }

    private static long made() {
        return THREADS.getThreadAllocatedBytes(Thread.currentThread().getId());
    }

    private void object() {
        checks.part("an object");
        long before = made();
        ParkingRobot x = new ParkingRobot();
        long bytes = made() - before;
        checks.due("bytes " + bytes + " of " + x.getClass(), bytes <= MOST_BYTES_OF_AN_OBJECT, true);
    }

    private void calls() {
        checks.part("the dearest calls");
        ParkingRobot x = full();
        long before = made();
        run(x);
        long bytes = made() - before;
        checks.due("bytes " + bytes + " of a run", bytes <= MOST_BYTES_OF_A_RUN, true);
    }

    /** Five back bays with a car, each behind another car, and room for those. */
    private static ParkingRobot full() {
        Yard yard = new Yard();
        for (int i = 0; i < 5; i++) {
            yard.put(4 * i + 1, 0, 10 - i);
            yard.put(4 * i, 0, 20 - i);
        }
        yard.open(20, 22, 24, 26, 28, 40, 42, 44, 46, 48);
        return yard.robot;
    }

    private static void run(ParkingRobot x) {
        long cars = 1L | 1L << 2 | 1L << 4 | 1L << 6 | 1L << 8;
        for (int i = 0; i < (CALLS - CALLS_OF_YARD) / 8; i++) {
            x.bestMoves(cars);
            x.bestEnd(cars);
            x.bestCar(cars, 4);
            x.plainMoves(cars);
            x.retrieveAll(cars);
            x.undo();
            x.tidy();
            x.undo();
        }
    }
}
