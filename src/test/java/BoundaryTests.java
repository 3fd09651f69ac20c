import java.io.IOException;
import java.util.List;
import java.util.NoSuchElementException;

/**
 * The sentences of the document's promises, in their order, each with its boundary cases; what is due is worked out
 * by hand. The sentences above the promises stand in DescriptionTests.
 */
public final class BoundaryTests {
    private static final Class<IndexOutOfBoundsException> INDEX = IndexOutOfBoundsException.class;
    private static final Class<IllegalArgumentException> ARGUMENT = IllegalArgumentException.class;
    private static final Class<IllegalStateException> STATE = IllegalStateException.class;
    private static final Class<UnsupportedOperationException> UNSUPPORTED = UnsupportedOperationException.class;
    private static final Class<NoSuchElementException> ELEMENT = NoSuchElementException.class;
    private static final Class<ArithmeticException> ARITHMETIC = ArithmeticException.class;
    private static final int LEAST = Integer.MIN_VALUE;
    private static final int MOST = Integer.MAX_VALUE;

    private static final String NO_CAR = "Throws `IndexOutOfBoundsException` if there is no such car, or it is gone";
    private static final String NO_WHAT = "Throws `IllegalArgumentException` if what is out of range";
    private static final String NO_CANDIDATE = "Throws `NoSuchElementException` if there is no candidate";
    private static final String WRONG_CAR =
        "Throws `IllegalArgumentException` if the size or the pickup is out of range";
    private static final String WRONG_SET =
        "Throws `IndexOutOfBoundsException` if the set is empty, or contains a car that is not stored";
    private static final String GREAT_SET = "Throws `IllegalArgumentException` if it contains more than 5 cars";
    private static final String IMPOSSIBLE = "Throws `NoSuchElementException` if all orders are impossible";
    private static final String NO_MACHINE = "Throws `IndexOutOfBoundsException` if there is no such machine";

    /** Sentences that name no boundary case, wherever they stand. */
    private static final List<String> WITHOUT_BOUNDARY = List.of("- `pickup`: the pickup", "- `car`: the car",
        "- `pickup`: the new pickup", "- `bay`: the bay", "- `isClosed`: whether it is closed then",
        "- `size`: the size", "- `cars`: the set", "- `machine`: the machine", "- `level`: the level",
        "- `i`: its number", "Returns the number.", "Returns the count.", "Returns the number of moves.",
        "Returns the end.", "Returns the car.", "Returns the number of jobs.", "Returns the part.",
        "Returns the account.", "Returns the load.", "Returns the mean.", "Returns a part of a job.",
        "Returns an account.", "Returns a number about a bay.", "Returns a number about a machine.",
        "Returns a count of bays.");

    private final Checks checks = new Checks();
    private final Document document;

    private BoundaryTests() throws IOException {
        document = new Document();
    }

    public static void main(String[] args) throws IOException {
        BoundaryTests tests = new BoundaryTests();
        tests.all();
        tests.checks.finish("BoundaryTests");
    }

    private void all() {
        newObject();
        store();
        storeRefused();
        retrieve();
        book();
        car();
        due();
        setClosed();
        bay();
        choice();
        refuge();
        bays();
        bestMoves();
        bestEnd();
        bestCar();
        plainMoves();
        retrieveAll();
        setsOfOrders();
        tidy();
        pass();
        machine();
        jobs();
        job();
        account();
        load();
        meanJob();
        report();
        feed();
        performed();
        performedInVain();
        performedAllOrNothing();
        undone();
        notUndone();
        undoneSixTimes();
        undoLeaves();
        save();
        restore();
        everySentenceIsQuoted();
    }

    private void says(int promise, String... parts) {
        String sentence = String.join(" ", parts);
        checks.part(promise + ": " + sentence);
        checks.due("the document", document.quote(promise, sentence), true);
    }

    private void everySentenceIsQuoted() {
        List<String> left = document.left(1, 30);
        left.removeIf(sentence -> WITHOUT_BOUNDARY.contains(sentence.replaceFirst("^\\d+: ", "")));
        checks.part("every sentence is quoted");
        checks.due("those left", left.toString(), "[]");
    }

    // ---- 1

    private void newObject() {
        says(1, "Creates an empty garage.");
        ParkingRobot x = new ParkingRobot();
        int[] bays = {0, 60, 60, 0, 0, 0};
        for (int what = 0; what < 6; what++) {
            checks.due("bays(" + what + ")", x.bays(what), bays[what]);
            checks.due("account(" + what + ")", x.account(what), 0);
        }
        for (int bay = 0; bay < 60; bay++) {
            checks.due("bay(" + bay + ", 6)", x.bay(bay, 6), -1);
            checks.due("bay(" + bay + ", 7)", x.bay(bay, 7), 1);
        }
        for (int machine = 0; machine < 4; machine++) {
            checks.machine(x, machine, 0, 0, 0);
        }
        checks.due("jobs()", x.jobs(), 0);
        checks.due("due(9999)", x.due(9999), 0L);
        checks.refused("report(0, 0)", ELEMENT, () -> x.report(0, 0));
        checks.refused("undo()", STATE, x::undo);
        checks.refused("restore()", STATE, x::restore);
        checks.due("perform()", x.perform(), -100);
        checks.due("feed", x.feed(';'), 1);
        checks.due("another object is empty, too", new ParkingRobot().feed(';'), 1);
    }

    // ---- 2

    private void store() {
        says(2, "Stores a car: a bay is chosen, and a job brings it there.");
        Yard yard = new Yard();
        yard.open(2, 8);
        checks.due("store(1, 5)", yard.robot.store(1, 5), 8);
        checks.due("bay(8, 6)", yard.robot.bay(8, 6), 0);
        checks.due("car(0, 2)", yard.robot.car(0, 2), 8);
        checks.job(yard.robot, 0, 0, -1, 8, 0, 10);
        checks.due("jobs()", yard.robot.jobs(), 1);
        says(2, "- `size`: 0 for a small car, 1 for a large one");
        checks.due("car(0, 0)", yard.robot.car(0, 0), 1);
        checks.due("store(0, 5)", yard.robot.store(0, 5), 2);
        checks.due("car(1, 0)", yard.robot.car(1, 0), 0);
        says(2, "Returns the bay.");
        checks.due("the least", new ParkingRobot().store(0, 0), 0);
        Yard last = new Yard();
        last.open(59);
        checks.due("the greatest", last.robot.store(0, 0), 59);
    }

    private void storeRefused() {
        says(2, WRONG_CAR);
        ParkingRobot x = new ParkingRobot();
        for (int wrong : new int[] {-1, 2, LEAST, MOST}) {
            checks.refused("store(" + wrong + ", 5)", ARGUMENT, () -> x.store(wrong, 5));
        }
        for (int wrong : new int[] {-1, 10000, LEAST, MOST}) {
            checks.refused("store(0, " + wrong + ")", ARGUMENT, () -> x.store(0, wrong));
        }
        checks.due("store(0, 0)", x.store(0, 0), 0);
        checks.due("store(1, 9999)", x.store(1, 9999), 10);

        says(2, "Throws `IllegalStateException` if there have been 40 cars");
        ParkingRobot full = Yard.after(40);
        checks.refused("the 41st", STATE, () -> full.store(0, 0));
        checks.refused("the 41st, large", STATE, () -> full.store(1, 9999));
        full.undo();
        full.undo();
        checks.due("the 40th", full.store(1, 9999), 0);
        checks.refused("the 41st", STATE, () -> full.store(0, 0));

        says(2, "Throws `UnsupportedOperationException` if there is no candidate");
        ParkingRobot front = new ParkingRobot();
        for (int car = 0; car < 30; car++) {
            checks.due("the bay of car " + car + " is a front bay", front.store(0, 0) % 2, 0);
        }
        checks.refused("all back bays are behind cars", UNSUPPORTED, () -> front.store(0, 0));
        Yard yard = new Yard();
        yard.open(2);
        checks.refused("a large car and a narrow bay", UNSUPPORTED, () -> yard.robot.store(1, 0));
        checks.due("a small one", yard.robot.store(0, 0), 2);
        checks.refused("a bay with a car", UNSUPPORTED, () -> yard.robot.store(0, 0));
        yard.open(3);
        checks.refused("a bay that cannot be reached", UNSUPPORTED, () -> yard.robot.store(0, 0));
        yard.open();
        checks.refused("no open bay", UNSUPPORTED, () -> yard.robot.store(0, 0));
        checks.due("account(1)", yard.robot.account(1), 1);
    }

    // ---- 3

    private void retrieve() {
        says(3, "Retrieves a car.");
        Yard yard = Yard.pair(10, 5);
        yard.open(59);
        ParkingRobot x = yard.robot;
        says(3, "Returns the number of jobs, 1 or 2.");
        checks.due("a blocked car", x.retrieve(0), 2);
        checks.due("jobs()", x.jobs(), 4);
        checks.due("a car that is not blocked", x.retrieve(1), 1);
        checks.due("jobs()", x.jobs(), 5);
        checks.due("bays(0)", x.bays(0), 0);
        checks.due("account(2)", x.account(2), 2);
        x.undo();
        x.undo();
        checks.due("the front one first", x.retrieve(1), 1);
        checks.due("the back one is not blocked then", x.retrieve(0), 1);

        says(3, NO_CAR);
        for (int wrong : new int[] {0, 1, 2, 39, 40, -1, LEAST, MOST}) {
            checks.refused("retrieve(" + wrong + ")", INDEX, () -> x.retrieve(wrong));
        }
        checks.refused("a new object", INDEX, () -> new ParkingRobot().retrieve(0));
        ParkingRobot taken = new ParkingRobot();
        taken.store(0, 5);
        taken.store(0, 5);
        taken.undo();
        checks.refused("a car that was taken back", INDEX, () -> taken.retrieve(1));
        ParkingRobot full = new ParkingRobot();
        for (int i = 0; i < 40; i++) {
            full.store(0, 0);
            if (i < 39) {
                full.retrieve(i);
            }
        }
        checks.refused("car 40", INDEX, () -> full.retrieve(40));
        checks.due("car 39", full.retrieve(39), 1);

        says(3, "Throws `UnsupportedOperationException` if it is refused; this leaves a report");
        Yard closed = Yard.pair(10, 5);
        closed.open(0, 1);
        checks.refused("a bad case of no report", ELEMENT, () -> closed.robot.report(0, 0));
        checks.refused("retrieve(0)", UNSUPPORTED, () -> closed.robot.retrieve(0));
        checks.reported(closed.robot, 0, 1, 0);
        checks.due("it is still there", closed.robot.car(0, 2), 1);
    }

    // ---- 4

    private void book() {
        says(4, "Changes the pickup of a car.");
        Yard yard = Yard.pair(10, 10);
        ParkingRobot x = yard.robot;
        x.book(0, 0);
        checks.due("the least", x.car(0, 1), 0);
        x.book(0, 9999);
        checks.due("the greatest", x.car(0, 1), 9999);
        checks.due("of this car alone", x.car(1, 1), 10);
        says(4, "It stays where it is.");
        x.book(0, 9);
        checks.due("car(0, 2)", x.car(0, 2), 1);
        checks.due("car(1, 2)", x.car(1, 2), 0);
        checks.due("though it is blocked by a later one", x.bays(5), 1);
        checks.due("jobs()", x.jobs(), 2);
        says(4, "Returns the previous pickup.");
        checks.due("book(0, 9999)", x.book(0, 9999), 9);
        checks.due("book(0, 9999)", x.book(0, 9999), 9999);
        checks.due("book(0, 0)", x.book(0, 0), 9999);
        checks.due("book(0, 1)", x.book(0, 1), 0);
        says(4, NO_CAR);
        x.retrieve(1);
        for (int wrong : new int[] {1, 2, 40, -1, LEAST, MOST}) {
            checks.refused("book(" + wrong + ", 5)", INDEX, () -> x.book(wrong, 5));
        }
        says(4, "Throws `IllegalArgumentException` if the pickup is out of range");
        for (int wrong : new int[] {-1, 10000, LEAST, MOST}) {
            checks.refused("book(0, " + wrong + ")", ARGUMENT, () -> x.book(0, wrong));
        }
        checks.due("car(0, 1)", x.car(0, 1), 1);
    }

    // ---- 5

    private void car() {
        says(5, "Returns a number about a car that is stored.");
        Yard yard = new Yard();
        yard.put(59, 1, 9999);
        yard.put(58, 0, 0);
        ParkingRobot x = yard.robot;
        says(5, "- `what`: 0 its size; 1 its pickup; 2 its bay; 3 the car that is blocking it, -1 for none; 4 the",
            "number of jobs that it has had");
        int[][] want = {{1, 9999, 59, 1, 1}, {0, 0, 58, -1, 1}};
        for (int what = 0; what < 5; what++) {
            checks.due("car(0, " + what + ")", x.car(0, what), want[0][what]);
            checks.due("car(1, " + what + ")", x.car(1, what), want[1][what]);
        }
        yard.open(0);
        x.retrieve(0);
        checks.due("its bay then", x.car(1, 2), 0);
        checks.due("its jobs then", x.car(1, 4), 2);
        checks.due("a front car with none behind it", x.car(1, 3), -1);
        yard.put(11, 0, 5);
        checks.due("a back car with none before it", x.car(2, 3), -1);
        yard.put(12, 0, 5);
        checks.due("nor is the next front car before it", x.car(2, 3), -1);
        says(5, NO_CAR);
        for (int wrong : new int[] {0, 4, 40, -1, LEAST, MOST}) {
            checks.refused("car(" + wrong + ", 0)", INDEX, () -> x.car(wrong, 0));
        }
        says(5, NO_WHAT);
        for (int wrong : new int[] {-1, 5, LEAST, MOST}) {
            checks.refused("car(1, " + wrong + ")", ARGUMENT, () -> x.car(1, wrong));
        }
    }

    // ---- 6

    private void due() {
        says(6, "Returns the cars that are stored whose pickup is not later than a time.");
        ParkingRobot x = new ParkingRobot();
        checks.due("none is stored", x.due(9999), 0L);
        x.store(0, 5);
        x.store(0, 6);
        x.store(0, 7);
        checks.due("due(4)", x.due(4), 0L);
        checks.due("due(5)", x.due(5), 1L);
        checks.due("due(6)", x.due(6), 3L);
        checks.due("due(9999)", x.due(9999), 7L);
        x.retrieve(0);
        checks.due("one is gone", x.due(9999), 6L);
        x.book(1, 9999);
        checks.due("due(9998)", x.due(9998), 4L);
        checks.due("due(9999)", x.due(9999), 6L);
        x.book(2, 0);
        checks.due("due(0)", x.due(0), 4L);
        x.pass(100);
        checks.due("whatever the present time is", x.due(0), 4L);
        says(6, "- `time`: the time, 0 to 9999");
        says(6, "Throws `IllegalArgumentException` if the time is out of range");
        for (int wrong : new int[] {-1, 10000, LEAST, MOST}) {
            checks.refused("due(" + wrong + ")", ARGUMENT, () -> x.due(wrong));
        }
        says(6, "Returns the set of cars, bit c for car c.");
        ParkingRobot last = Yard.after(40);
        last.undo();
        checks.due("the last car", last.due(0), 1L << 39);
        ParkingRobot middle = new ParkingRobot();
        for (int i = 0; i < 30; i++) {
            middle.store(0, 0);
        }
        for (int i = 0; i < 4; i++) {
            middle.retrieve(i);
            middle.store(0, 0);
        }
        checks.due("the cars 4 to 33", middle.due(0), (1L << 34) - 1 - 15);
    }

    // ---- 7

    private void setClosed() {
        says(7, "Closes or opens a bay.");
        ParkingRobot x = new ParkingRobot();
        says(7, "Returns whether it was closed.");
        for (int bay : new int[] {0, 59}) {
            checks.due("open, opened", x.setClosed(bay, false), false);
            checks.due("open, closed", x.setClosed(bay, true), false);
            checks.due("closed, closed", x.setClosed(bay, true), true);
            checks.due("bay(" + bay + ", 5)", x.bay(bay, 5), 1);
            checks.due("closed, opened", x.setClosed(bay, false), true);
            checks.due("bay(" + bay + ", 5)", x.bay(bay, 5), 0);
        }
        for (int bay = 0; bay < 60; bay++) {
            x.setClosed(bay, true);
        }
        checks.due("all of them", x.bays(3), 60);
        says(7, "A car in it stays, and can be retrieved or moved away.");
        Yard yard = Yard.pair(10, 5);
        yard.open(59);
        checks.due("the bays are closed", yard.robot.bay(0, 5) + yard.robot.bay(1, 5), 2);
        checks.due("the front car stays", yard.robot.bay(0, 6), 1);
        checks.due("the back car stays", yard.robot.bay(1, 6), 0);
        checks.due("one is moved away, one retrieved", yard.robot.retrieve(0), 2);
        checks.due("bay(0, 6)", yard.robot.bay(0, 6), -1);
        checks.refused("no car comes to a closed bay", UNSUPPORTED, () -> yard.robot.store(0, 5));
        says(7, "Throws `IndexOutOfBoundsException` if there is no such bay");
        for (int wrong : new int[] {-1, 60, LEAST, MOST}) {
            checks.refused("setClosed(" + wrong + ", true)", INDEX, () -> x.setClosed(wrong, true));
            checks.refused("setClosed(" + wrong + ", false)", INDEX, () -> x.setClosed(wrong, false));
        }
    }

    // ---- 8

    private void bay() {
        says(8, "- `what`: 0 its level; 1 its side; 2 its column; 3 its depth; 4: 1 if it is wide, otherwise 0; 5:",
            "1 if it is closed, otherwise 0; 6 the car in it, -1 for none; 7: 1 if it can be reached, otherwise 0");
        Yard yard = Yard.pair(10, 5);
        yard.put(59, 0, 5);
        ParkingRobot x = yard.robot;
        int[] bays = {0, 1, 19, 20, 59, 58};
        int[][] numbers = {{0, 0, 0, 0, 1, 1, 1, 1}, {0, 0, 0, 1, 1, 1, 0, 0}, {0, 1, 4, 1, 1, 1, -1, 1},
            {1, 0, 0, 0, 1, 1, -1, 1}, {2, 1, 4, 1, 1, 0, 2, 1}, {2, 1, 4, 0, 1, 1, -1, 1}};
        for (int i = 0; i < bays.length; i++) {
            for (int what = 0; what < 8; what++) {
                checks.due("bay(" + bays[i] + ", " + what + ")", x.bay(bays[i], what), numbers[i][what]);
            }
        }
        checks.due("a narrow bay", x.bay(57, 4), 0);
        x.retrieve(1);
        checks.due("bay(1, 7) without a car before it", x.bay(1, 7), 1);
        checks.due("bay(0, 6) of a car that is gone", x.bay(0, 6), -1);
        says(8, "Throws `IndexOutOfBoundsException` if there is no such bay");
        for (int wrong : new int[] {-1, 60, LEAST, MOST}) {
            for (int what = 0; what < 8; what++) {
                int part = what;
                checks.refused("bay(" + wrong + ", " + what + ")", INDEX, () -> x.bay(wrong, part));
            }
        }
        says(8, NO_WHAT);
        for (int wrong : new int[] {-1, 8, LEAST, MOST}) {
            checks.refused("bay(0, " + wrong + ")", ARGUMENT, () -> x.bay(0, wrong));
            checks.refused("bay(59, " + wrong + ")", ARGUMENT, () -> x.bay(59, wrong));
        }
    }

    // ---- 9

    private void choice() {
        says(9, "Returns the bay that would be chosen for a car that comes.");
        says(9, "Returns the bay.");
        ParkingRobot x = new ParkingRobot();
        checks.due("the least", x.choice(0, 0), 0);
        checks.due("the least", x.choice(1, 9999), 0);
        Yard last = new Yard();
        last.open(59);
        checks.due("the greatest", last.robot.choice(1, 0), 59);
        int[] smallAfterLarge = {10, 2, 2, 2};
        int[] largeAfterLarge = {10, 4, 14, 20};
        for (int i = 0; i < 4; i++) {
            x.store(1, 5);
            checks.due("a small one after " + i, x.choice(0, 5), smallAfterLarge[i]);
            checks.due("a large one after " + i, x.choice(1, 5), largeAfterLarge[i]);
        }
        checks.due("also when there have been 40 cars", Yard.after(40).choice(0, 0), 0);
        says(9, "Nothing changes.");
        checks.leavesAlone("choice(0, 5)", BoundaryTests::afresh, y -> y.choice(0, 5), 10);
        says(9, WRONG_CAR);
        for (int wrong : new int[] {-1, 2, LEAST, MOST}) {
            checks.refused("choice(" + wrong + ", 5)", ARGUMENT, () -> x.choice(wrong, 5));
        }
        for (int wrong : new int[] {-1, 10000, LEAST, MOST}) {
            checks.refused("choice(0, " + wrong + ")", ARGUMENT, () -> x.choice(0, wrong));
        }
        says(9, NO_CANDIDATE);
        Yard yard = new Yard();
        yard.put(0, 0, 5);
        yard.open(0, 1, 2, 3);
        checks.due("a narrow one for a small car", yard.robot.choice(0, 5), 2);
        checks.refused("one with a car, one behind it, narrow ones", ELEMENT, () -> yard.robot.choice(1, 5));
        yard.open();
        checks.refused("no open bay", ELEMENT, () -> yard.robot.choice(0, 5));
    }

    // ---- 10

    private void refuge() {
        says(10, "Returns the bay that would be chosen for a car that is moved from its bay.");
        says(10, "Returns the bay.");
        Yard yard = Yard.pair(10, 5);
        ParkingRobot x = yard.robot;
        yard.open(0, 1, 59);
        checks.due("the greatest", x.refuge(1), 59);
        checks.due("of a car that is blocked", x.refuge(0), 59);
        yard.open(10, 2);
        checks.due("the other side is nearer", x.refuge(1), 10);
        yard.put(40, 0, 5);
        yard.open(0, 59);
        checks.due("not the bay with a car", x.refuge(2), 59);
        x.retrieve(1);
        checks.due("the front bay before the car itself, without a car", x.refuge(0), 0);
        says(10, "Nothing changes.");
        checks.leavesAlone("refuge(1)", BoundaryTests::afresh, y -> y.refuge(1), 10);
        says(10, NO_CAR);
        for (int wrong : new int[] {1, 3, 40, -1, LEAST, MOST}) {
            checks.refused("refuge(" + wrong + ")", INDEX, () -> x.refuge(wrong));
        }
        says(10, NO_CANDIDATE);
        Yard large = new Yard();
        large.put(0, 1, 5);
        large.open(0, 1, 2, 3, 12);
        checks.refused("its own bay, the one behind it, narrow ones", ELEMENT, () -> large.robot.refuge(0));
        large.open();
        checks.refused("no open bay", ELEMENT, () -> large.robot.refuge(0));
    }

    /** Car 0 behind car 1, which is later, and room beside them; nothing can be taken back but two changes. */
    private static ParkingRobot afresh() {
        Yard yard = Yard.pair(10, 20);
        yard.open(10, 4, 6);
        yard.robot.save();
        yard.robot.restore();
        yard.robot.setClosed(59, false);
        yard.robot.pass(5);
        return yard.robot;
    }

    // ---- 11

    private void bays() {
        says(11, "- `what`: 0 the bays with cars; 1 the open bays without a car; 2 those of them that can be",
            "reached; 3 the closed bays; 4 the cars that are blocked by another one; 5 those of them whose pickup",
            "is earlier than that of the blocking car");
        Yard yard = Yard.pair(10, 9);
        yard.put(11, 0, 10);
        yard.put(10, 0, 10);
        yard.put(21, 0, 10);
        yard.put(20, 0, 11);
        yard.put(58, 0, 5);
        yard.put(57, 0, 5);
        yard.open(0, 1, 2, 3, 58, 59);
        counted(yard.robot, 8, 3, 2, 54, 3, 1);
        yard.open();
        counted(yard.robot, 8, 0, 0, 60, 3, 1);
        counted(new ParkingRobot(), 0, 60, 60, 0, 0, 0);
        ParkingRobot full = new ParkingRobot();
        for (int i = 0; i < 30; i++) {
            full.store(0, 5);
        }
        counted(full, 30, 30, 0, 0, 0, 0);
        Yard gone = Yard.pair(10, 20);
        gone.put(24, 0, 5);
        gone.open();
        gone.robot.retrieve(2);
        counted(gone.robot, 2, 0, 0, 60, 1, 1);
        gone.robot.retrieve(1);
        counted(gone.robot, 1, 0, 0, 60, 0, 0);
        says(11, NO_WHAT);
        for (int wrong : new int[] {-1, 6, LEAST, MOST}) {
            checks.refused("bays(" + wrong + ")", ARGUMENT, () -> full.bays(wrong));
        }
    }

    private void counted(ParkingRobot x, int... counts) {
        for (int what = 0; what < 6; what++) {
            checks.due("bays(" + what + ")", x.bays(what), counts[what]);
        }
    }

    // ---- 12 to 16

    /** A call with a set of cars. */
    private interface Asking {
        Object of(ParkingRobot x, long cars);
    }

    private void wrongSet(int promise, Asking call) {
        says(promise, WRONG_SET);
        ParkingRobot x = new ParkingRobot();
        checks.refused("the empty set of a new object", INDEX, () -> call.of(x, 0));
        checks.refused("car 0 of a new object", INDEX, () -> call.of(x, 1));
        for (int i = 0; i < 4; i++) {
            x.store(0, 5);
        }
        x.retrieve(1);
        x.undo();
        x.retrieve(2);
        checks.refused("the empty set", INDEX, () -> call.of(x, 0));
        checks.refused("car 2, which is gone", INDEX, () -> call.of(x, 4));
        checks.refused("car 2 and others", INDEX, () -> call.of(x, 15));
        checks.refused("car 4, which has not come", INDEX, () -> call.of(x, 16 + 1));
        for (int bit : new int[] {4, 31, 32, 39, 40, 62, 63}) {
            checks.refused("bit " + bit, INDEX, () -> call.of(x, 1L << bit));
            checks.refused("bit " + bit + " and car 0", INDEX, () -> call.of(x, 1L << bit | 1L));
        }
        checks.refused("all bits", INDEX, () -> call.of(x, -1L));
        checks.due("all cars that are stored", !Checks.answer(() -> call.of(x, 11)).endsWith("Exception"), true);
        ParkingRobot last = Yard.after(40);
        last.undo();
        checks.due("car 39", !Checks.answer(() -> call.of(last, 1L << 39)).endsWith("Exception"), true);
    }

    private void greatSet(int promise, String sentence, Asking call) {
        says(promise, sentence);
        for (int count = 1; count <= 7; count++) {
            ParkingRobot x = new ParkingRobot();
            for (int i = 0; i < 7; i++) {
                x.store(0, 5);
            }
            String due = count <= 5 ? "true" : "IllegalArgumentException";
            long cars = (1L << count) - 1;
            checks.due(count + " cars", () -> call.of(x, cars) != null, due);
        }
    }

    private void impossibleSet(int promise, Asking call) {
        says(promise, IMPOSSIBLE);
        checks.refused("car 0 alone", ELEMENT, () -> call.of(Yard.stuck(), 1));
        checks.refused("car 0 and one elsewhere", ELEMENT, () -> call.of(Yard.stuck(), 5));
        checks.due("car 0 and the blocking one", () -> call.of(Yard.stuck(), 3) != null, true);
        checks.due("all three", () -> call.of(Yard.stuck(), 7) != null, true);
        checks.refused("five, of which one cannot be retrieved", ELEMENT, () -> call.of(Yard.sixAndABlocker(), 31));
    }

    private void bestMoves() {
        says(12, "Returns the number of moves of the best order of a set of cars.");
        Yard yard = Yard.pair(1, 2);
        yard.open(13);
        checks.due("a blocked car", yard.robot.bestMoves(1), 2);
        checks.due("a car that is not blocked", yard.robot.bestMoves(2), 1);
        checks.due("both", yard.robot.bestMoves(3), 2);
        says(12, "- `cars`: the set, bit c for car c, of 1 to 5 cars that are stored");
        ParkingRobot x = new ParkingRobot();
        for (int i = 0; i < 6; i++) {
            x.store(0, 5);
        }
        checks.due("one", x.bestMoves(1), 1);
        checks.due("five", x.bestMoves(31), 5);
        checks.due("five others", x.bestMoves(62), 5);
        checks.refused("none", INDEX, () -> x.bestMoves(0));
        checks.refused("six", ARGUMENT, () -> x.bestMoves(63));
        wrongSet(12, ParkingRobot::bestMoves);
        greatSet(12, GREAT_SET, ParkingRobot::bestMoves);
        impossibleSet(12, ParkingRobot::bestMoves);
    }

    private void bestEnd() {
        says(13, "Returns the end of the best order of a set of cars.");
        Yard yard = Yard.pair(1, 2);
        yard.open(13);
        ParkingRobot x = yard.robot;
        // the shuttle: 11, out 13; the lift: 9; handover 15, out 17; the shuttle: out 18; handover 20
        checks.due("both", x.bestEnd(3), 22);
        checks.due("the one that is not blocked", x.bestEnd(2), 17);
        x.pass(11);
        checks.due("the machines are ready just now", x.bestEnd(3), 22);
        x.pass(1);
        checks.due("a minute later", x.bestEnd(3), 23);
        wrongSet(13, ParkingRobot::bestEnd);
        greatSet(13, GREAT_SET, ParkingRobot::bestEnd);
        impossibleSet(13, ParkingRobot::bestEnd);
    }

    private void bestCar() {
        says(14, "Returns a car of the best order of a set of cars.");
        Yard yard = Yard.pair(1, 2);
        yard.put(24, 0, 5);
        ParkingRobot x = yard.robot;
        yard.open(13);
        says(14, "- `i`: its place in the order, from 0");
        checks.due("bestCar(3, 0)", x.bestCar(3, 0), 1);
        checks.due("bestCar(3, 1)", x.bestCar(3, 1), 0);
        checks.due("bestCar(4, 0)", x.bestCar(4, 0), 2);
        wrongSet(14, (y, cars) -> y.bestCar(cars, 0));
        greatSet(14, "Throws `IllegalArgumentException` if it contains more than 5 cars, or there is no such place",
            (y, cars) -> y.bestCar(cars, 0));
        for (int wrong : new int[] {-1, 1, 5, LEAST, MOST}) {
            checks.refused("bestCar(4, " + wrong + ")", ARGUMENT, () -> x.bestCar(4, wrong));
        }
        for (int wrong : new int[] {-1, 3, 5, LEAST, MOST}) {
            checks.refused("bestCar(7, " + wrong + ")", ARGUMENT, () -> x.bestCar(7, wrong));
        }
        ParkingRobot five = new ParkingRobot();
        long seen = 0;
        for (int i = 0; i < 5; i++) {
            five.store(0, 5);
        }
        for (int i = 0; i < 5; i++) {
            seen |= 1L << five.bestCar(31, i);
        }
        checks.due("five places, five cars", seen, 31L);
        checks.refused("the place 5 of five cars", ARGUMENT, () -> five.bestCar(31, 5));
        impossibleSet(14, (y, cars) -> y.bestCar(cars, 0));
    }

    private void plainMoves() {
        says(15, "Returns the number of moves of the plain order of a set of cars.");
        Yard yard = Yard.pair(1, 2);
        yard.open(13);
        ParkingRobot x = yard.robot;
        checks.due("a blocked car", x.plainMoves(1), 2);
        checks.due("a car that is not blocked", x.plainMoves(2), 1);
        checks.due("the blocked one first", x.plainMoves(3), 3);
        x.book(1, 1);
        checks.due("the same pickup: the lower number first", x.plainMoves(3), 3);
        x.book(1, 0);
        checks.due("the blocking one first", x.plainMoves(3), 2);
        wrongSet(15, ParkingRobot::plainMoves);
        greatSet(15, GREAT_SET, ParkingRobot::plainMoves);
        says(15, "Throws `NoSuchElementException` if the plain order is impossible");
        ParkingRobot stuck = Yard.stuck();
        checks.refused("car 0 alone", ELEMENT, () -> stuck.plainMoves(1));
        checks.refused("the cars 0 and 2", ELEMENT, () -> stuck.plainMoves(5));
        stuck.book(2, 0);
        checks.refused("the cars 2 and 0", ELEMENT, () -> stuck.plainMoves(5));
        checks.due("car 1, then car 0", stuck.plainMoves(3), 2);
        stuck.book(1, 10);
        checks.refused("car 0, then car 1, though there is another order", ELEMENT, () -> stuck.plainMoves(3));
        checks.due("the best one is that", stuck.bestMoves(3), 2);
    }

    private void retrieveAll() {
        says(16, "Retrieves a set of cars in their best order.");
        Yard yard = Yard.pair(1, 2);
        yard.put(24, 0, 5);
        ParkingRobot x = yard.robot;
        yard.open(13);
        x.pass(100);
        int end = x.bestEnd(3);
        checks.due("retrieveAll(3)", x.retrieveAll(3), end);
        checks.due("due(9999)", x.due(9999), 4L);
        checks.due("the first one", x.job(3, 0), 1);
        checks.due("the last one", x.job(4, 0), 0);
        checks.due("its end", x.job(4, 4), end);
        says(16, "This is one change.");
        checks.due("undo()", x.undo(), 5);
        checks.due("all are back", x.due(9999), 7L);
        checks.due("jobs()", x.jobs(), 3);
        checks.due("of one car that is blocked", x.retrieveAll(1), x.account(5));
        checks.due("jobs()", x.jobs(), 5);
        checks.due("undo()", x.undo(), 5);
        checks.due("both are back", x.car(1, 2) + x.car(0, 2), 1);
        wrongSet(16, ParkingRobot::retrieveAll);
        greatSet(16, GREAT_SET, ParkingRobot::retrieveAll);
        impossibleSet(16, ParkingRobot::retrieveAll);
    }

    private void setsOfOrders() {
        checks.part("12 to 15: asking for orders changes nothing");
        checks.leavesAlone("bestMoves(3)", BoundaryTests::afresh, y -> y.bestMoves(3), 2);
        checks.leavesAlone("bestMoves(1)", BoundaryTests::afresh, y -> y.bestMoves(1), 2);
        checks.leavesAlone("bestEnd(3)", BoundaryTests::afresh, y -> y.bestEnd(3), 22);
        checks.leavesAlone("bestCar(3, 1)", BoundaryTests::afresh, y -> y.bestCar(3, 1), 0);
        checks.leavesAlone("plainMoves(3)", BoundaryTests::afresh, y -> y.plainMoves(3), 3);
    }

    // ---- 17

    private void tidy() {
        says(17, "Tidies.");
        Yard yard = Yard.pair(10, 20);
        yard.put(21, 0, 10);
        yard.put(20, 0, 20);
        yard.open(13, 33);
        ParkingRobot x = yard.robot;
        says(17, "Returns the number of cars that are moved.");
        checks.due("two", x.tidy(), 2);
        checks.due("car(1, 2)", x.car(1, 2), 13);
        checks.due("car(3, 2)", x.car(3, 2), 33);
        checks.due("none", x.tidy(), 0);
        x.undo();
        x.undo();
        x.setClosed(33, true);
        checks.due("one, as the other one finds none on its way", x.tidy(), 1);
        checks.due("none: there is no bay", x.tidy(), 0);
        checks.due("a new object", new ParkingRobot().tidy(), 0);
        Yard full = new Yard();
        int[] fronts = new int[15];
        for (int i = 0; i < 15; i++) {
            full.put(2 * i + 1, 0, 10);
            full.put(2 * i, 0, 20);
            fronts[i] = 30 + 2 * i;
        }
        full.open(fronts);
        checks.due("fifteen", full.robot.tidy(), 15);
        checks.due("account(3)", full.robot.account(3), 15);
        checks.due("bays(4)", full.robot.bays(4), 0);
    }

    // ---- 18

    private void pass() {
        says(18, "Lets time pass.");
        ParkingRobot x = new ParkingRobot();
        says(18, "Returns the time then.");
        says(18, "- `minutes`: the number of minutes, 1 to 999");
        checks.due("pass(1)", x.pass(1), 1);
        checks.due("account(0)", x.account(0), 1);
        checks.due("pass(999)", x.pass(999), 1000);
        checks.due("account(0)", x.account(0), 1000);
        says(18, "Throws `IllegalArgumentException` if the number is out of range");
        for (int wrong : new int[] {0, -1, 1000, LEAST, MOST}) {
            checks.refused("pass(" + wrong + ")", ARGUMENT, () -> x.pass(wrong));
        }
        says(18, "Throws `IllegalStateException` if the time would be greater than 9999");
        for (int time = 1999; time <= 9991; time += 999) {
            checks.due("pass(999)", x.pass(999), time);
        }
        checks.due("pass(7)", x.pass(7), 9998);
        checks.refused("pass(2)", STATE, () -> x.pass(2));
        checks.refused("pass(999)", STATE, () -> x.pass(999));
        checks.due("account(0)", x.account(0), 9998);
        checks.due("pass(1)", x.pass(1), 9999);
        checks.refused("pass(1)", STATE, () -> x.pass(1));
        x.undo();
        checks.due("pass(1) again", x.pass(1), 9999);
    }

    // ---- 19

    private void machine() {
        says(19, "- `machine`: 0 to 2 for the shuttle of this level, 3 for the lift");
        Yard yard = new Yard();
        yard.put(8, 0, 5);
        yard.put(22, 0, 5);
        yard.put(44, 0, 5);
        ParkingRobot x = yard.robot;
        says(19, "- `what`: 0 the column or the level where it is when it is free; 1 the time from which it is",
            "free; 2 the sum of the minutes from the beginning to the end of its part in all jobs so far, waiting",
            "for other machines included");
        checks.machine(x, 0, 4, 10, 10);
        // the lift: 4, in 6, up 9, handover 11, then down 14, in 16, up 22, handover 24
        checks.machine(x, 1, 1, 14, 14);
        checks.machine(x, 2, 2, 28, 28);
        checks.machine(x, 3, 2, 24, 24);
        x.pass(100);
        checks.machine(x, 3, 2, 24, 24);
        x.retrieve(0);
        // the shuttle: out 102, column 0 at 106; the lift: down 106, handover 108, out 110
        checks.machine(x, 0, 0, 108, 18);
        checks.machine(x, 3, 0, 110, 34);
        x.undo();
        checks.machine(x, 0, 4, 10, 10);
        checks.machine(x, 3, 2, 24, 24);
        says(19, NO_MACHINE);
        for (int wrong : new int[] {-1, 4, LEAST, MOST}) {
            checks.refused("machine(" + wrong + ", 0)", INDEX, () -> x.machine(wrong, 0));
        }
        says(19, NO_WHAT);
        for (int wrong : new int[] {-1, 3, LEAST, MOST}) {
            checks.refused("machine(0, " + wrong + ")", ARGUMENT, () -> x.machine(0, wrong));
            checks.refused("machine(3, " + wrong + ")", ARGUMENT, () -> x.machine(3, wrong));
        }
    }

    // ---- 20 and 21

    private void jobs() {
        says(20, "Returns the number of jobs that are kept.");
        ParkingRobot x = new ParkingRobot();
        checks.due("none", x.jobs(), 0);
        for (int car = 0; car < 30; car++) {
            x.store(0, 5);
            checks.due("after " + (car + 1), x.jobs(), Math.min(car + 1, 20));
        }
        checks.refused("no bay", UNSUPPORTED, () -> x.store(0, 5));
        checks.due("after 30", x.jobs(), 20);
    }

    private void job() {
        says(21, "- `what`: 0 the car; 1 the bay from which it was brought, -1 for the gate; 2 the bay to which it",
            "was brought, -1 for the gate; 3 its beginning; 4 its end");
        Yard yard = Yard.pair(10, 5);
        yard.open(13);
        ParkingRobot x = yard.robot;
        x.retrieve(0);
        checks.job(x, 0, 0, -1, 1, 0, 7);
        checks.job(x, 1, 1, -1, 0, 4, 11);
        checks.job(x, 2, 1, 0, 13, 11, 17);
        checks.job(x, 3, 0, 1, -1, 9, 25);
        says(21, "Throws `IndexOutOfBoundsException` if there is no such job");
        for (int wrong : new int[] {-1, 4, 20, LEAST, MOST}) {
            checks.refused("job(" + wrong + ", 0)", INDEX, () -> x.job(wrong, 0));
        }
        checks.refused("a new object", INDEX, () -> new ParkingRobot().job(0, 0));
        x.undo();
        checks.refused("the jobs that were taken back", INDEX, () -> x.job(2, 0));
        ParkingRobot many = Yard.after(40);
        checks.due("job(0, 0)", many.job(0, 0), 30);
        checks.due("job(19, 0)", many.job(19, 0), 39);
        checks.refused("the 21st of those kept", INDEX, () -> many.job(20, 0));
        says(21, NO_WHAT);
        for (int wrong : new int[] {-1, 5, LEAST, MOST}) {
            checks.refused("job(0, " + wrong + ")", ARGUMENT, () -> x.job(0, wrong));
            checks.refused("job(19, " + wrong + ")", ARGUMENT, () -> many.job(19, wrong));
        }
    }

    // ---- 22 to 24

    private void account() {
        says(22, "- `what`: 0 the time; 1 the cars that came; 2 the cars that were retrieved; 3 the cars that were",
            "moved from one bay to another one, each time counted; 4 the sum of the minutes from the beginning to",
            "the end of all jobs; 5 the greatest end of a job, 0 if there was none");
        for (int what = 0; what < 6; what++) {
            checks.due("account(" + what + ") of a new object", new ParkingRobot().account(what), 0);
        }
        Yard yard = Yard.pair(10, 20);
        yard.open(13);
        ParkingRobot x = yard.robot;
        accounted(x, 0, 2, 0, 0, 7 + 7, 11);
        x.pass(50);
        x.tidy();
        // the shuttle: out 52, column 1 at 53, in 56
        accounted(x, 50, 2, 0, 1, 14 + 6, 56);
        yard.put(12, 0, 20);
        // the lift: 50, in 52; the shuttle: 56, column 0 at 57; handover 59, column 1 at 60, in 62
        accounted(x, 50, 3, 0, 1, 20 + 12, 62);
        yard.open(14);
        x.retrieve(1);
        // moved by the shuttle: 62, out 64, column 2 at 65, in 67; then column 1 at 68, out 71, column 0 at 72
        // the lift: 59; handover 74, out 76
        accounted(x, 50, 3, 1, 2, 32 + 5 + 17, 76);
        yard.open(0);
        x.retrieve(0);
        // the shuttle: 74, out 77; the lift: 76; handover 79, out 81
        accounted(x, 50, 3, 2, 2, 54 + 7, 81);
        ParkingRobot full = Yard.after(40);
        checks.due("40 cars came", full.account(1), 40);
        checks.due("40 cars were retrieved", full.account(2), 40);
        // 12 minutes a car, as the lift works without a gap; the first store takes 6, all other jobs 8
        checks.due("jobs that are not kept count", full.account(4), 6 + 79 * 8);
        checks.due("the greatest end", full.account(5), 480);
        says(22, NO_WHAT);
        for (int wrong : new int[] {-1, 6, LEAST, MOST}) {
            checks.refused("account(" + wrong + ")", ARGUMENT, () -> x.account(wrong));
        }
    }

    private void accounted(ParkingRobot x, int... accounts) {
        for (int what = 0; what < 6; what++) {
            checks.due("account(" + what + ")", x.account(what), accounts[what]);
        }
    }

    private void load() {
        says(23, "Returns the load of a machine: the sum of minutes that machine returns for it, as a float,",
            "divided by the time from which it is free, as a float.");
        Yard yard = new Yard();
        yard.put(0, 0, 5);
        checks.due("a machine without a pause", yard.robot.load(3), 1f);
        yard.robot.pass(100);
        yard.robot.retrieve(0);
        // the shuttle: 6 minutes, then 4 until 104; the lift: 4 minutes, then 6 until 106
        checks.due("load(0)", yard.robot.load(0), 10f / 104f);
        checks.due("load(3)", yard.robot.load(3), 10f / 106f);
        says(23, NO_MACHINE);
        for (int wrong : new int[] {-1, 4, LEAST, MOST}) {
            checks.refused("load(" + wrong + ")", INDEX, () -> yard.robot.load(wrong));
        }
        says(23, "Throws `ArithmeticException` if the machine is free from the time 0 on");
        checks.refused("load(1)", ARITHMETIC, () -> yard.robot.load(1));
        checks.refused("load(2)", ARITHMETIC, () -> yard.robot.load(2));
        yard.put(20, 0, 5);
        checks.due("load(1)", yard.robot.load(1), 15f / 115f);
        yard.robot.undo();
        checks.refused("load(1) after undo", ARITHMETIC, () -> yard.robot.load(1));
        ParkingRobot x = new ParkingRobot();
        x.pass(999);
        checks.refused("load(3), though time has passed", ARITHMETIC, () -> x.load(3));
    }

    private void meanJob() {
        says(24, "Returns the mean duration of a job: the account 4, as a double, divided by the number of all jobs",
            "so far, as a double.");
        ParkingRobot x = new ParkingRobot();
        x.store(0, 5);
        checks.due("one job", x.meanJob(), 6.0);
        x.retrieve(0);
        checks.due("two jobs", x.meanJob(), 7.0);
        x.store(0, 5);
        checks.due("three jobs", x.meanJob(), 22.0 / 3.0);
        checks.due("80 jobs, of which 20 are kept", Yard.after(40).meanJob(), 638.0 / 80.0);
        says(24, "Throws `ArithmeticException` if there were no jobs");
        checks.refused("a new object", ARITHMETIC, () -> new ParkingRobot().meanJob());
        x.undo();
        x.undo();
        x.undo();
        checks.refused("all jobs were taken back", ARITHMETIC, x::meanJob);
    }

    // ---- 25

    private void report() {
        says(25, "Returns a part of a level of the report.");
        Yard yard = Yard.pair(10, 5);
        yard.open(0, 1);
        ParkingRobot x = yard.robot;
        says(25, "Throws `NoSuchElementException` if there is no such level, or no report");
        for (int level = -1; level < 4; level++) {
            int asked = level;
            checks.refused("no report yet, level " + level, ELEMENT, () -> x.report(asked, 0));
        }
        checks.refused("retrieve(0)", UNSUPPORTED, () -> x.retrieve(0));
        for (int wrong : new int[] {-1, 3, LEAST, MOST}) {
            checks.refused("report(" + wrong + ", 0)", ELEMENT, () -> x.report(wrong, 0));
        }
        says(25, "- `what`: 0 the code, 1 the detail");
        checks.reported(x, 0, 1, 0);
        Yard other = new Yard();
        other.put(3, 0, 10);
        other.put(1, 0, 10);
        other.put(0, 1, 5);
        other.open(2, 12, 13);
        checks.refused("retrieve(1)", UNSUPPORTED, () -> other.robot.retrieve(1));
        checks.reported(other.robot, 1, 2, 3);
        checks.reported(x, 0, 1, 0);
        says(25, NO_WHAT);
        for (int wrong : new int[] {-1, 2, LEAST, MOST}) {
            checks.refused("report(0, " + wrong + ")", ARGUMENT, () -> x.report(0, wrong));
            checks.refused("report(2, " + wrong + ")", ARGUMENT, () -> x.report(2, wrong));
        }
    }

    // ---- 26

    private void feed() {
        says(26, "Appends a character to the input buffer.");
        ParkingRobot x = new ParkingRobot();
        says(26, "- `letter`: any character");
        char[] letters = {0, '\n', ' ', 127, 128, 255, 256, '\ud800', '\uffff', 't'};
        says(26, "Returns the number of characters in the buffer.");
        for (int i = 0; i < letters.length; i++) {
            checks.due("feed of the character " + (int) letters[i], x.feed(letters[i]), i + 1);
        }
        checks.due("perform()", x.perform(), -100);
        checks.due("the buffer is empty", x.feed('t'), 1);
        checks.due("then it grows again", x.feed('7'), 2);
        says(26, "Throws `IllegalStateException` if the buffer already holds 60 characters");
        x.feed(';');
        String rest = "t1;".repeat(19);
        for (int i = 0; i < rest.length(); i++) {
            checks.due("feed", x.feed(rest.charAt(i)), i + 4);
        }
        checks.refused("the 61st", STATE, () -> x.feed(';'));
        checks.refused("the 62nd", STATE, () -> x.feed((char) 0));
        checks.due("the 60 are as they were", x.perform(), 20);
        checks.due("account(0)", x.account(0), 26);
        checks.due("the buffer is empty", x.feed('t'), 1);
    }

    // ---- 27

    private void performed() {
        says(27, "Parses the input buffer as a text of commands and carries them out, in their order.");
        ParkingRobot x = new ParkingRobot();
        checks.performed(x, "c0;s0,5;o0;s1,6;", 4);
        checks.due("car 0 came before the bay 0 was open", x.car(0, 2), 10);
        checks.due("car 1 came after that", x.car(1, 2), 0);
        checks.performed(x, "r1;s0,7;r2;s0,8;", 4);
        checks.due("car 3", x.car(3, 2), 0);
        checks.due("account(2)", x.account(2), 2);
        says(27, "The buffer is empty afterwards, also after an error or an exception.");
        checks.due("after commands", x.feed('t'), 1);
        checks.due("perform()", x.perform(), -101);
        checks.due("after an error", x.feed('r'), 1);
        Checks.type(x, "9;");
        checks.refused("perform r9;", UNSUPPORTED, x::perform);
        checks.due("after an exception", x.feed('x'), 1);
        checks.due("perform()", x.perform(), -100);
        checks.due("of an empty buffer", x.perform(), -100);
        says(27, "Returns the number of commands; -100 minus the error position after a syntax error.");
        checks.performed(x, "t1;", 1);
        checks.performed(x, "t1;t1;", 2);
        checks.performed(x, "t1;".repeat(20), 20);
        checks.performed(x, "t001;".repeat(12), 12);
        checks.performed(x, "?", -100);
        checks.performed(x, "t1;".repeat(19) + "t1?", -159);
        checks.performed(x, "t1;".repeat(19) + "t11", -160);
        checks.due("account(0)", x.account(0), 35);
    }

    private void performedInVain() {
        says(27, "Throws `UnsupportedOperationException` if the text is correct, and the corresponding method would",
            "throw an exception for one of the commands");
        ParkingRobot x = new ParkingRobot();
        String[] refused = {"t0;", "t0000;", "t1000;", "t9999;", "c60;", "o60;", "c9999;", "o9999;", "r0;", "r40;",
            "r9999;"};
        String[] carriedOut = {"t1;", "t0001;", "t999;", "t0999;", "c59;", "o59;", "c0000;", "o0000;"};
        for (String text : refused) {
            checks.notPerformed(x, text);
        }
        for (String text : carriedOut) {
            checks.performed(x, text, 1);
        }
        checks.due("account(0)", x.account(0), 2000);
        checks.performed(x, "s0,5;r0;", 2);
        checks.notPerformed(x, "r0;");
        checks.notPerformed(x, "r1;");
        checks.notPerformed(Yard.after(39), "s0,5;s0,5;");
        checks.performed(Yard.after(39), "s0,5;", 1);
        checks.notPerformed(Yard.late(), "t1;");
        Yard large = new Yard();
        large.open(2);
        checks.notPerformed(large.robot, "s1,5;");
        checks.notPerformed(large.robot, "s0,5;s0,5;");
        checks.performed(large.robot, "s0,5;", 1);
        Yard blocked = Yard.pair(10, 5);
        blocked.open();
        checks.notPerformed(blocked.robot, "r0;");
        checks.performed(blocked.robot, "r1;r0;", 2);
        checks.performed(new ParkingRobot(), "r1?", -102);
    }

    private void performedAllOrNothing() {
        says(27, "If a command cannot be carried out, none has an effect, but a report of a refused retrieval is",
            "left.");
        String[] refused = {"s0,5;c4;t0;", "s0,5;c4;c60;", "s0,5;c4;r9;", "r0;r1;t1;r1;", "s0,5;s0,5;s0,5;s0,5;s0,5;",
            "c4;" + "t999;".repeat(11)};
        for (String text : refused) {
            checks.due("what there is after " + text, (Object) Sight.rest(performedAfresh(text)),
                Sight.rest(performedAfresh("?")));
        }
        ParkingRobot x = Yard.stuck();
        checks.due("perform()", x.perform(), -101);
        checks.notPerformed(x, "o3;r9;");
        checks.reported(x, 0, 1, 0);
        checks.notPerformed(x, "o24;o25;r0;");
        // the bay 24 has a car, the bay 25 is behind it
        checks.reported(x, 0, 1, 1);
        checks.due("all bays are closed again", x.bays(3), 60);
        checks.notPerformed(x, "o25;s0,5;");
        checks.reported(x, 0, 1, 1);
        checks.due("all cars are there", x.due(9999), 7L);
    }

    private static ParkingRobot performedAfresh(String text) {
        ParkingRobot x = afresh();
        Checks.type(x, text);
        Checks.answer(x::perform);
        return x;
    }

    // ---- 28

    private void undone() {
        says(28, "Takes back the latest change that was not taken back: a successful call of store, retrieve, book,",
            "setClosed, retrieveAll, tidy or pass, or one of perform that carries commands out, also if everything",
            "stayed the same.");
        takenBack("store(0, 5)", x -> x.store(0, 5));
        takenBack("retrieve(1)", x -> x.retrieve(1));
        takenBack("retrieve(0), which moves a car", x -> x.retrieve(0));
        takenBack("book(0, 7)", x -> x.book(0, 7));
        takenBack("book(0, 10), which it was", x -> x.book(0, 10));
        takenBack("setClosed(4, true)", x -> x.setClosed(4, true));
        takenBack("setClosed(4, false), which it was", x -> x.setClosed(4, false));
        takenBack("setClosed(3, true), which it was", x -> x.setClosed(3, true));
        takenBack("retrieveAll(3)", x -> x.retrieveAll(3));
        takenBack("retrieveAll(1), which moves a car", x -> x.retrieveAll(1));
        takenBack("tidy()", x -> x.tidy());
        takenBack("pass(1)", x -> x.pass(1));
        takenBack("perform r0;t1;c4;o5;s0,5;", x -> perform(x, "r0;t1;c4;o5;s0,5;"));
        takenBack("perform o4;, which it was", x -> perform(x, "o4;"));
        checks.leavesAlone("two calls of tidy, the second of which moves none", BoundaryTests::afresh, x -> {
            int moved = x.tidy() * 10 + x.tidy();
            x.undo();
            x.undo();
            return moved;
        }, 10);
        checks.leavesAlone("store, store, undo, book, undo, undo", BoundaryTests::afresh, x -> {
            x.store(0, 5);
            x.store(0, 6);
            x.undo();
            x.book(2, 9);
            x.undo();
            return x.undo();
        }, 2);
    }

    private interface Change {
        Object of(ParkingRobot x);
    }

    /** There are two changes that can be taken back before. */
    private void takenBack(String call, Change change) {
        checks.leavesAlone(call + ", then undo", BoundaryTests::afresh, x -> {
            change.of(x);
            return x.undo();
        }, 2);
    }

    private static int perform(ParkingRobot x, String text) {
        Checks.type(x, text);
        return x.perform();
    }

    private void notUndone() {
        checks.part("28: what is no change");
        ParkingRobot x = afresh();
        x.choice(0, 5);
        x.refuge(0);
        x.bestMoves(3);
        x.bestEnd(3);
        x.bestCar(3, 0);
        x.plainMoves(3);
        x.save();
        perform(x, "");
        perform(x, "c4;?");
        checks.notPerformed(x, "c4;r9;");
        checks.refused("store(2, 0)", ARGUMENT, () -> x.store(2, 0));
        checks.refused("retrieve(9)", INDEX, () -> x.retrieve(9));
        checks.refused("book(0, -1)", ARGUMENT, () -> x.book(0, -1));
        checks.refused("setClosed(60, true)", INDEX, () -> x.setClosed(60, true));
        checks.refused("retrieveAll(0)", INDEX, () -> x.retrieveAll(0));
        checks.refused("pass(0)", ARGUMENT, () -> x.pass(0));
        x.feed('t');
        checks.due("pass(5) is taken back", x.undo(), 1);
        checks.due("account(0)", x.account(0), 0);
        checks.due("setClosed(59, false) is taken back", x.undo(), 0);
        checks.due("bay(59, 5)", x.bay(59, 5), 1);
        checks.refused("there is no other", STATE, x::undo);
    }

    private void undoneSixTimes() {
        says(28, "At most 6 changes can be taken back.");
        says(28, "Returns the number of changes that can still be taken back.");
        says(28, "Throws `IllegalStateException` if there is none");
        for (int changes = 0; changes <= 30; changes++) {
            ParkingRobot x = new ParkingRobot();
            for (int i = 1; i <= changes; i++) {
                x.pass(i);
            }
            int sum = changes * (changes + 1) / 2;
            int most = Math.min(changes, 6);
            for (int i = 1; i <= most; i++) {
                checks.due("undo() " + i + " of " + changes, x.undo(), most - i);
                sum -= changes + 1 - i;
                checks.due("account(0)", x.account(0), sum);
            }
            checks.refused("undo() of " + changes + " once more", STATE, x::undo);
            checks.due("account(0)", x.account(0), sum);
            x.pass(1);
            checks.due("a change after that", x.undo(), 0);
            checks.refused("and no other", STATE, x::undo);
        }
        ParkingRobot x = new ParkingRobot();
        for (int i = 0; i < 40; i++) {
            x.pass(1);
            x.pass(2);
            x.undo();
        }
        checks.due("account(0)", x.account(0), 40);
        // the last undo has taken back one of six
        for (int left = 4; left >= 0; left--) {
            checks.due("undo()", x.undo(), left);
            checks.due("account(0)", x.account(0), 35 + left);
        }
        checks.refused("undo() once more", STATE, x::undo);
    }

    private void undoLeaves() {
        says(28, "The input buffer and the report stay; all else is as it was before the change.");
        ParkingRobot x = afresh();
        x.feed('t');
        x.retrieve(0);
        x.feed('9');
        x.undo();
        checks.due("the buffer", x.feed(';'), 3);
        checks.due("perform()", x.perform(), 1);
        checks.due("account(0)", x.account(0), 14);
        checks.due("undo()", x.undo(), 2);
        checks.due("the buffer is not filled again", x.perform(), -100);
        Yard yard = Yard.pair(10, 5);
        yard.put(24, 0, 5);
        yard.open();
        ParkingRobot y = yard.robot;
        y.pass(1);
        checks.refused("retrieve(0)", UNSUPPORTED, () -> y.retrieve(0));
        y.undo();
        checks.reported(y, 0, 1, 0);
        y.undo();
        checks.reported(y, 0, 1, 0);
        ParkingRobot saved = new ParkingRobot();
        saved.store(0, 5);
        saved.save();
        saved.undo();
        checks.due("what was saved is left alone", saved.restore(), 1);
    }

    // ---- 29 and 30

    private void save() {
        says(29, "Saves everything but the input buffer, the report and what can be taken back, in place of what",
            "was saved before.");
        ParkingRobot x = afresh();
        String before = Sight.rest(afresh());
        x.feed('t');
        x.save();
        x.store(0, 5);
        x.retrieve(0);
        x.setClosed(58, false);
        x.pass(9);
        x.feed('7');
        checks.due("restore()", x.restore(), 2);
        checks.due("the buffer was not saved", x.feed(';'), 3);
        checks.due("perform()", x.perform(), 1);
        checks.due("account(0)", x.account(0), 12);
        x.undo();
        checks.refused("what could be taken back was not saved", STATE, x::undo);
        String start = before.substring(0, before.indexOf("undo="));
        checks.due("all else is as it was", Sight.rest(x).startsWith(start), true);

        ParkingRobot twice = new ParkingRobot();
        checks.due("of an empty garage", twice.save(), 0);
        twice.store(0, 5);
        checks.due("in place of that", twice.save(), 1);
        twice.store(0, 5);
        checks.due("restore()", twice.restore(), 1);
        Yard yard = Yard.pair(10, 5);
        yard.robot.save();
        yard.open();
        checks.refused("retrieve(0)", UNSUPPORTED, () -> yard.robot.retrieve(0));
        yard.robot.restore();
        checks.reported(yard.robot, 0, 1, 0);
        ParkingRobot number = new ParkingRobot();
        number.store(1, 77);
        number.save();
        number.undo();
        number.store(0, 0);
        number.store(0, 0);
        number.retrieve(0);
        checks.due("restore()", number.restore(), 1);
        int[] numbers = {1, 77, 0, -1, 1};
        for (int what = 0; what < 5; what++) {
            checks.due("of the car that had the number then: " + what, number.car(0, what), numbers[what]);
        }
        says(29, "Returns the number of cars that are stored.");
        ParkingRobot many = new ParkingRobot();
        for (int i = 0; i < 30; i++) {
            many.store(0, 5);
        }
        checks.due("30", many.save(), 30);
        many.retrieve(29);
        checks.due("29, as one is gone", many.save(), 29);
        checks.due("none, as all are gone", Yard.after(40).save(), 0);
    }

    private void restore() {
        says(30, "Throws `IllegalStateException` if nothing was saved");
        ParkingRobot x = new ParkingRobot();
        checks.refused("restore()", STATE, x::restore);
        x.store(0, 5);
        checks.refused("restore()", STATE, x::restore);
        checks.due("what can be taken back stays", x.undo(), 0);
        says(30, "Returns the number of cars that are stored.");
        x.save();
        x.store(0, 5);
        checks.due("none", x.restore(), 0);
        checks.due("due(9999)", x.due(9999), 0L);
        x.store(0, 6);
        checks.due("numbers come back, too", x.bay(0, 6), 0);
        x.store(0, 5);
        x.save();
        x.retrieve(0);
        checks.due("two", x.restore(), 2);
        says(30, "Restores what was saved, which stays saved.");
        for (int i = 0; i < 3; i++) {
            x.retrieve(1);
            x.pass(3);
            x.setClosed(9, true);
            checks.due("restore() again", x.restore(), 2);
            checks.due("account(0)", x.account(0), 0);
            checks.due("bays(3)", x.bays(3), 0);
            checks.due("jobs()", x.jobs(), 2);
            checks.machine(x, 0, 0, 10, 10);
        }
        says(30, "No change can be taken back afterwards.");
        x.pass(3);
        x.restore();
        checks.refused("undo()", STATE, x::undo);
        x.pass(4);
        checks.due("a change after that can", x.undo(), 0);
        checks.refused("undo()", STATE, x::undo);
        checks.due("account(0)", x.account(0), 0);
    }
}
