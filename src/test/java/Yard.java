/** A robot whose cars are put where a test wants them: all other bays are closed while a car comes. */
final class Yard {
    final ParkingRobot robot = new ParkingRobot();
    private final boolean[] isClosed = new boolean[60];
    private int cars;

    /** Opens these bays alone. */
    Yard open(int... bays) {
        boolean[] wanted = new boolean[60];
        for (int bay : bays) {
            wanted[bay] = true;
        }
        for (int bay = 0; bay < 60; bay++) {
            if (isClosed[bay] == wanted[bay]) {
                robot.setClosed(bay, !wanted[bay]);
                isClosed[bay] = !wanted[bay];
            }
        }
        return this;
    }

    /** Stores a car in a bay and returns its number. */
    int put(int bay, int size, int pickup) {
        open(bay);
        if (robot.store(size, pickup) != bay) {
            throw new IllegalStateException("the only open bay must be chosen");
        }
        return cars++;
    }

    /** A small car 0 in the back bay 1, and a small car 1 in the front bay 0 before it, with these pickups. */
    static Yard pair(int back, int front) {
        Yard yard = new Yard();
        yard.put(1, 0, back);
        yard.put(0, 0, front);
        return yard;
    }

    /**
     * Car 0 behind car 1 in the bays 1 and 0, car 2 in the bay 24, and every bay closed; with a report, with changes
     * that can be taken back, with something saved that is no more, and with a letter in the buffer.
     */
    static ParkingRobot stuck() {
        Yard yard = pair(10, 5);
        yard.robot.save();
        yard.put(24, 1, 300);
        yard.open();
        yard.robot.pass(7);
        yard.robot.feed('t');
        Checks.answer(() -> yard.robot.retrieve(0));
        return yard.robot;
    }

    /** A robot that so many cars have come to; they are all gone, and all bays are open. */
    static ParkingRobot after(int cars) {
        ParkingRobot x = new ParkingRobot();
        for (int car = 0; car < cars; car++) {
            x.store(1, 0);
            x.retrieve(car);
        }
        return x;
    }

    /** Six cars, of which car 0 is behind car 6, which is no one of them, and every bay closed. */
    static ParkingRobot sixAndABlocker() {
        Yard yard = new Yard();
        yard.put(1, 0, 10);
        for (int i = 0; i < 5; i++) {
            yard.put(20 + 2 * i, 0, 10);
        }
        yard.put(0, 0, 5);
        yard.open();
        return yard.robot;
    }

    /** A robot whose time is as late as it can be. */
    static ParkingRobot late() {
        ParkingRobot x = new ParkingRobot();
        for (int i = 0; i < 10; i++) {
            x.pass(999);
        }
        x.pass(9);
        return x;
    }
}
