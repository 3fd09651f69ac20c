/** The example of README.md, which must show the same lines. */
public final class Example {
    public static void main(String[] args) {
        ParkingRobot robot = new ParkingRobot();
        System.out.println("car 0, large, stands in bay " + robot.store(1, 480));
        System.out.println("car 1, small, stands in bay " + robot.store(0, 450));
        System.out.println("the time is " + robot.pass(30));

        long both = 1L << 0 | 1L << 1;
        System.out.println("the best order of both begins with car " + robot.bestCar(both, 0));
        System.out.println("it has " + robot.bestMoves(both) + " moves and ends at " + robot.bestEnd(both));

        System.out.println("car 0 is retrieved by " + robot.retrieve(0) + " job");
        try {
            robot.retrieve(0);
        } catch (IndexOutOfBoundsException e) {
            System.out.println("car 0 is gone");
        }
        System.out.println("after undo, " + robot.undo() + " changes can still be taken back");

        for (char letter : "s0,100;r0;".toCharArray()) {
            robot.feed(letter);
        }
        System.out.println("perform carries out " + robot.perform() + " commands");
        System.out.println("the mean job takes " + robot.meanJob() + " minutes");
    }
}
