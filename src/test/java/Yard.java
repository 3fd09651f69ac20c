/** A robot whose cars are put where a test wants them: all other bays are closed while a car comes. */
final class Yard {
    final ParkingRobot robot = new ParkingRobot();
    private final boolean[] isClosed = new boolean[60];
    private int cars;

    /** Opens these bays alone. */
    Yard open(int... bays) {
        boolean[] wanted = new boolean[60];
        for (int bay : bays) {
            wanted[bay] = true;
        }
        for (int bay = 0; bay < 60; bay++) {
            if (isClosed[bay] == wanted[bay]) {
                robot.setClosed(bay, !wanted[bay]);
                isClosed[bay] = !wanted[bay];
            }
        }
        return this;
    }

    /** Stores a car in a bay and returns its number. */
    int put(int bay, int size, int pickup) {
        open(bay);
        if (robot.store(size, pickup) != bay) {
            throw new IllegalStateException("the only open bay must be chosen");
        }
        return cars++;
    }

    /** A small car 0 in the back bay 1, and a small car 1 in the front bay 0 before it, with these pickups. */
    static Yard pair(int back, int front) {
        Yard yard = new Yard();
        yard.put(1, 0, back);
        yard.put(0, 0, front);
        return yard;
    }
}
