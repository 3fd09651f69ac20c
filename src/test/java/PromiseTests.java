import java.util.NoSuchElementException;

/** A method for each promise; what is due is worked out by hand from the document. */
public final class PromiseTests {
    private static final Class<IndexOutOfBoundsException> INDEX = IndexOutOfBoundsException.class;
    private static final Class<IllegalArgumentException> ARGUMENT = IllegalArgumentException.class;
    private static final Class<IllegalStateException> STATE = IllegalStateException.class;
    private static final Class<UnsupportedOperationException> UNSUPPORTED = UnsupportedOperationException.class;
    private static final Class<NoSuchElementException> ELEMENT = NoSuchElementException.class;
    private static final Class<ArithmeticException> ARITHMETIC = ArithmeticException.class;
    private static final int LEAST = Integer.MIN_VALUE;
    private static final int MOST = Integer.MAX_VALUE;

    private final Checks checks = new Checks();

    public static void main(String[] args) {
        PromiseTests tests = new PromiseTests();
        tests.all();
        tests.checks.finish("PromiseTests");
    }

    private void all() {
        newObject();
        storeChoosesInOrder();
        storeRefuses();
        storeMakesJobs();
        retrieveAlone();
        retrieveWithMoveOnLevel();
        retrieveWithMoveToOtherLevel();
        retrieveRefuses();
        book();
        car();
        due();
        setClosed();
        bay();
        choice();
        refuge();
        bays();
        bestOrder();
        bestOrderBreaksTies();
        impossibleOrders();
        wrongSets();
        plainOrder();
        retrieveAll();
        tidy();
        tidyInOrder();
        pass();
        machine();
        jobs();
        account();
        loadAndMean();
        report();
        feed();
        performCarriesOut();
        performFindsErrors();
        performTakesAllBack();
        undo();
        undoKeepsBufferAndReport();
        saveAndRestore();
    }

    // ---- 1

    private void newObject() {
        checks.part("1 a new object");
        ParkingRobot x = new ParkingRobot();
        int[] counts = {0, 60, 60, 0, 0, 0};
        for (int what = 0; what < 6; what++) {
            checks.due("bays(" + what + ")", x.bays(what), counts[what]);
            checks.due("account(" + what + ")", x.account(what), 0);
        }
        for (int machine = 0; machine < 4; machine++) {
            for (int what = 0; what < 3; what++) {
                checks.due("machine(" + machine + ", " + what + ")", x.machine(machine, what), 0);
            }
        }
        checks.due("jobs()", x.jobs(), 0);
        checks.due("due(9999)", x.due(9999), 0L);
        checks.due("tidy()", x.tidy(), 0);
        checks.refused("car(0, 0)", INDEX, () -> x.car(0, 0));
        checks.due("save()", x.save(), 0);
    }

    // ---- 2

    private void storeChoosesInOrder() {
        checks.part("2 store, choosing");
        ParkingRobot small = new ParkingRobot();
        int[] smallBays = {0, 10, 2, 12, 4, 14, 6, 16, 20, 30, 8, 18, 22, 32, 24, 34, 26, 36, 40, 50, 28, 38, 42, 52};
        for (int bay : smallBays) {
            checks.due("store(0, 7)", small.store(0, 7), bay);
        }
        ParkingRobot large = new ParkingRobot();
        int[] largeBays = {0, 10, 4, 14, 20, 30, 8, 18, 24, 34, 40, 50, 28, 38, 44, 54, 48, 58};
        for (int bay : largeBays) {
            checks.due("store(1, 7)", large.store(1, 7), bay);
        }
        checks.refused("a large car finds no wide bay", UNSUPPORTED, () -> large.store(1, 7));
        checks.due("a small one finds a narrow one", large.store(0, 7), 2);

        Yard yard = new Yard();
        yard.put(1, 0, 10);
        yard.open(0, 59);
        checks.due("an equal pickup before is not bad", yard.robot.store(0, 10), 0);
        yard.robot.undo();
        checks.due("a later pickup before is bad", yard.robot.store(0, 11), 59);
        yard.robot.undo();
        yard.open(0);
        checks.due("a bad bay is better than none", yard.robot.store(0, 11), 0);

        Yard closed = new Yard();
        closed.open(1, 9);
        checks.due("a back bay behind a closed front bay", closed.robot.store(1, 5), 1);
        checks.due("and the depth counts", closed.robot.car(0, 2), 1);
    }

    private void storeRefuses() {
        checks.part("2 store, refused");
        ParkingRobot x = new ParkingRobot();
        for (int wrong : new int[] {-1, 2, LEAST, MOST}) {
            checks.refused("size " + wrong, ARGUMENT, () -> x.store(wrong, 0));
        }
        for (int wrong : new int[] {-1, 10000, LEAST, MOST}) {
            checks.refused("pickup " + wrong, ARGUMENT, () -> x.store(0, wrong));
        }
        for (int i = 0; i < 30; i++) {
            x.store(0, 9999);
        }
        checks.refused("all back bays are behind cars", UNSUPPORTED, () -> x.store(0, 0));
        checks.due("a car that finds no bay gets no number", x.account(1), 30);
        checks.due("bays(1)", x.bays(1), 30);
        checks.due("bays(2)", x.bays(2), 0);

        ParkingRobot full = new ParkingRobot();
        for (int i = 0; i < 40; i++) {
            checks.due("store(1, 0)", full.store(1, 0), 0);
            checks.due("retrieve(" + i + ")", full.retrieve(i), 1);
        }
        checks.refused("the 41st car", STATE, () -> full.store(0, 0));
        checks.refused("a wrong size comes first", ARGUMENT, () -> full.store(2, 0));
        checks.refused("a wrong pickup comes first", ARGUMENT, () -> full.store(0, -1));
        for (int bay = 0; bay < 60; bay++) {
            full.setClosed(bay, true);
        }
        checks.refused("40 cars come before no candidate", STATE, () -> full.store(0, 0));
        for (int i = 0; i < 6; i++) {
            full.undo();
        }
        checks.refused("the refused ones were no changes", STATE, full::undo);
    }

    private void storeMakesJobs() {
        checks.part("2 store, jobs");
        Yard yard = farAndNear();
        checks.job(yard.robot, 0, 0, -1, 29, 0, 14);
        checks.job(yard.robot, 1, 1, -1, 0, 0, 16);
        checks.machine(yard.robot, 0, 0, 16, 16);
        checks.machine(yard.robot, 1, 4, 14, 14);
        checks.machine(yard.robot, 2, 0, 0, 0);
        checks.machine(yard.robot, 3, 0, 14, 14);
        yard.put(9, 0, 0);
        // the lift is ready at 14 and takes the car in until 16; the shuttle is ready at 16
        checks.job(yard.robot, 2, 2, -1, 9, 14, 25);
        yard.put(2, 0, 0);
        // the lift is ready at 18 and waits; the shuttle is ready at 25 in column 4
        checks.job(yard.robot, 3, 3, -1, 2, 18, 34);
        checks.machine(yard.robot, 0, 1, 34, 34);
        checks.machine(yard.robot, 3, 0, 31, 31);
    }

    /** Car 0 in the bay 29, on level 1, in column 4, at the back; then car 1 in the bay 0. */
    private static Yard farAndNear() {
        Yard yard = new Yard();
        yard.put(29, 0, 50);
        yard.put(0, 0, 60);
        return yard;
    }

    // ---- 3

    private void retrieveAlone() {
        checks.part("3 retrieve, alone");
        ParkingRobot x = farAndNear().robot;
        x.pass(100);
        checks.due("retrieve(0)", x.retrieve(0), 1);
        checks.job(x, 2, 0, 29, -1, 100, 114);
        checks.machine(x, 1, 0, 109, 23);
        checks.machine(x, 3, 0, 114, 28);
        checks.due("its bay is free", x.bay(29, 6), -1);
        for (int wrong : new int[] {0, 2, 40, -1, LEAST, MOST}) {
            checks.refused("retrieve(" + wrong + ")", INDEX, () -> x.retrieve(wrong));
        }
        checks.due("a front car before it does not matter", Yard.pair(5, 5).robot.retrieve(1), 1);
        checks.refused("no report of a car that is gone", ELEMENT, () -> x.report(0, 0));
    }

    private void retrieveWithMoveOnLevel() {
        checks.part("3 retrieve, moving on the level");
        Yard yard = Yard.pair(10, 5);
        yard.open(6, 13, 20);
        ParkingRobot x = yard.robot;
        checks.due("retrieve(0)", x.retrieve(0), 2);
        checks.job(x, 0, 0, -1, 1, 0, 7);
        checks.job(x, 1, 1, -1, 0, 4, 11);
        checks.job(x, 2, 1, 0, 13, 11, 17);
        // the lift is ready at 9 and waits where it is
        checks.job(x, 3, 0, 1, -1, 9, 25);
        checks.machine(x, 0, 0, 23, 23);
        checks.machine(x, 3, 0, 25, 25);
        checks.due("account(3)", x.account(3), 1);
        checks.due("account(4)", x.account(4), 36);
        checks.due("account(5)", x.account(5), 25);
        checks.due("car(1, 2)", x.car(1, 2), 13);
        checks.due("car(1, 4)", x.car(1, 4), 2);
        checks.due("undo()", x.undo(), 5);
        checks.due("one change for both jobs", x.car(0, 3), 1);
    }

    private void retrieveWithMoveToOtherLevel() {
        checks.part("3 retrieve, moving to another level");
        Yard yard = Yard.pair(10, 5);
        yard.open(43);
        ParkingRobot x = yard.robot;
        checks.due("retrieve(0)", x.retrieve(0), 2);
        // the shuttle of level 2 is ready at 0
        checks.job(x, 2, 1, 0, 43, 0, 27);
        checks.job(x, 3, 0, 1, -1, 15, 33);
        checks.machine(x, 0, 0, 31, 31);
        checks.machine(x, 2, 1, 27, 27);
        checks.machine(x, 3, 0, 33, 33);
    }

    private void retrieveRefuses() {
        checks.part("3 retrieve, refused");
        Yard yard = Yard.pair(10, 5);
        yard.open();
        ParkingRobot x = yard.robot;
        checks.refused("retrieve(0)", UNSUPPORTED, () -> x.retrieve(0));
        checks.due("both cars stay", x.bays(0), 2);
        checks.due("no job was made", x.jobs(), 2);
        checks.due("account(3)", x.account(3), 0);
        checks.due("the front car in a closed bay can be retrieved", x.retrieve(1), 1);
        checks.due("then the back one", x.retrieve(0), 1);

        Yard own = Yard.pair(10, 5);
        own.open(0, 1);
        checks.refused("its own column is no refuge", UNSUPPORTED, () -> own.robot.retrieve(0));
    }

    // ---- 4 to 6

    private void book() {
        checks.part("4 book");
        ParkingRobot x = Yard.pair(10, 5).robot;
        checks.due("book(1, 9999)", x.book(1, 9999), 5);
        checks.due("book(1, 0)", x.book(1, 0), 9999);
        checks.due("book(1, 0)", x.book(1, 0), 0);
        checks.due("it stays where it is", x.car(1, 2), 0);
        checks.due("no job", x.jobs(), 2);
        checks.refused("book(1, -1)", ARGUMENT, () -> x.book(1, -1));
        checks.refused("book(1, 10000)", ARGUMENT, () -> x.book(1, 10000));
        checks.refused("book(2, -1)", INDEX, () -> x.book(2, -1));
        checks.refused("book(-1, 0)", INDEX, () -> x.book(-1, 0));
        checks.due("nothing changed", x.car(1, 1), 0);
        x.undo();
        checks.due("also if all stayed the same it is a change", x.car(1, 1), 0);
        x.undo();
        checks.due("after undo", x.car(1, 1), 9999);
        x.retrieve(1);
        checks.refused("a car that is gone", INDEX, () -> x.book(1, 0));
    }

    private void car() {
        checks.part("5 car");
        Yard yard = new Yard();
        yard.put(29, 1, 123);
        yard.put(28, 0, 4567);
        ParkingRobot x = yard.robot;
        int[] back = {1, 123, 29, 1, 1};
        int[] front = {0, 4567, 28, -1, 1};
        for (int what = 0; what < 5; what++) {
            checks.due("car(0, " + what + ")", x.car(0, what), back[what]);
            checks.due("car(1, " + what + ")", x.car(1, what), front[what]);
        }
        for (int wrong : new int[] {-1, 5, LEAST, MOST}) {
            checks.refused("what " + wrong, ARGUMENT, () -> x.car(0, wrong));
            checks.refused("car " + wrong, INDEX, () -> x.car(wrong, wrong));
        }
        x.retrieve(1);
        checks.refused("a car that is gone", INDEX, () -> x.car(1, 0));
        checks.due("no car blocks any more", x.car(0, 3), -1);
    }

    private void due() {
        checks.part("6 due");
        ParkingRobot x = new ParkingRobot();
        for (int i = 0; i < 40; i++) {
            x.store(0, i == 39 ? 9999 : 100);
            if (i < 38) {
                x.retrieve(i);
            }
        }
        checks.due("due(99)", x.due(99), 0L);
        checks.due("due(100)", x.due(100), 1L << 38);
        checks.due("due(9998)", x.due(9998), 1L << 38);
        checks.due("due(9999)", x.due(9999), 1L << 38 | 1L << 39);
        x.book(39, 0);
        checks.due("due(0)", x.due(0), 1L << 39);
        for (int wrong : new int[] {-1, 10000, LEAST, MOST}) {
            checks.refused("due(" + wrong + ")", ARGUMENT, () -> x.due(wrong));
        }
    }

    // ---- 7 to 11

    private void setClosed() {
        checks.part("7 setClosed");
        ParkingRobot x = new ParkingRobot();
        checks.due("setClosed(0, true)", x.setClosed(0, true), false);
        checks.due("setClosed(0, true)", x.setClosed(0, true), true);
        checks.due("bays(3)", x.bays(3), 1);
        checks.due("setClosed(0, false)", x.setClosed(0, false), true);
        checks.due("setClosed(59, false)", x.setClosed(59, false), false);
        for (int wrong : new int[] {-1, 60, LEAST, MOST}) {
            checks.refused("setClosed(" + wrong + ")", INDEX, () -> x.setClosed(wrong, true));
        }
        x.store(0, 1);
        x.setClosed(0, true);
        checks.due("the car stays", x.bay(0, 6), 0);
        x.undo();
        checks.due("after undo", x.bay(0, 5), 0);
        x.setClosed(0, true);
        checks.due("it can be retrieved", x.retrieve(0), 1);

        Yard yard = Yard.pair(1, 2);
        yard.open(2);
        checks.due("a car in a closed bay can be moved away", yard.robot.retrieve(0), 2);
    }

    private void bay() {
        checks.part("8 bay");
        ParkingRobot x = Yard.pair(1, 2).robot;
        int[][] numbers = {{0, 0, 0, 0, 1, 0, 1, 1}, {0, 0, 0, 1, 1, 1, 0, 0}, {1, 1, 3, 1, 0, 1, -1, 1},
            {2, 1, 4, 1, 1, 1, -1, 1}, {2, 0, 1, 0, 0, 1, -1, 1}};
        int[] bays = {0, 1, 37, 59, 42};
        for (int i = 0; i < bays.length; i++) {
            int bay = bays[i];
            for (int what = 0; what < 8; what++) {
                checks.due("bay(" + bay + ", " + what + ")", x.bay(bay, what), numbers[i][what]);
            }
        }
        for (int bay = 0; bay < 60; bay++) {
            int number = ((x.bay(bay, 0) * 2 + x.bay(bay, 1)) * 5 + x.bay(bay, 2)) * 2 + x.bay(bay, 3);
            checks.due("the number from its parts", number, bay);
        }
        for (int wrong : new int[] {-1, 8, LEAST, MOST}) {
            checks.refused("what " + wrong, ARGUMENT, () -> x.bay(59, wrong));
        }
        for (int wrong : new int[] {-1, 60, LEAST, MOST}) {
            checks.refused("bay " + wrong, INDEX, () -> x.bay(wrong, 8));
        }
    }

    private void choice() {
        checks.part("9 choice");
        ParkingRobot x = new ParkingRobot();
        x.store(1, 5);
        x.store(1, 5);
        checks.due("choice(0, 5)", x.choice(0, 5), 2);
        checks.due("choice(1, 5)", x.choice(1, 5), 4);
        checks.due("nothing changes", x.account(1), 2);
        checks.refused("choice(2, 0)", ARGUMENT, () -> x.choice(2, 0));
        checks.refused("choice(-1, 0)", ARGUMENT, () -> x.choice(-1, 0));
        checks.refused("choice(0, 10000)", ARGUMENT, () -> x.choice(0, 10000));
        checks.refused("choice(0, -1)", ARGUMENT, () -> x.choice(0, -1));

        Yard yard = new Yard();
        yard.open(3, 6, 17);
        checks.due("narrow bays for a small car", yard.robot.choice(0, 0), 3);
        checks.refused("narrow bays for a large car", ELEMENT, () -> yard.robot.choice(1, 0));
        yard.open();
        checks.refused("no open bay", ELEMENT, () -> yard.robot.choice(0, 0));
        checks.refused("a wrong pickup comes first", ARGUMENT, () -> yard.robot.choice(0, -1));

        ParkingRobot full = new ParkingRobot();
        for (int i = 0; i < 40; i++) {
            full.store(1, 0);
            full.retrieve(i);
        }
        checks.due("also when 40 cars have come", full.choice(0, 0), 0);
    }

    private void refuge() {
        checks.part("10 refuge");
        Yard yard = new Yard();
        yard.put(24, 0, 30);
        ParkingRobot x = yard.robot;
        yard.open(20, 35, 37, 28);
        // efforts on the level: 2, 0 + 1, 1 + 1, 2
        checks.due("the other side is as near", x.refuge(0), 35);
        yard.open(20, 28, 37);
        checks.due("the lower number of equal efforts", x.refuge(0), 20);
        yard.open(0, 4, 40);
        // efforts: 20 + 3 + 2 + 0, 20 + 3 + 2 + 2, 20 + 3 + 2 + 0
        checks.due("of other levels the lower number", x.refuge(0), 0);
        yard.open(4, 41, 40);
        checks.due("of other levels the lesser effort", x.refuge(0), 40);
        yard.open(0, 39);
        checks.due("the own level is nearer than others", x.refuge(0), 39);
        yard.open(25);
        checks.refused("the back bay behind it cannot be reached", ELEMENT, () -> x.refuge(0));
        yard.open(24);
        checks.refused("its own bay has a car", ELEMENT, () -> x.refuge(0));
        checks.refused("no such car", INDEX, () -> x.refuge(1));
        checks.refused("no such car", INDEX, () -> x.refuge(-1));

        Yard bad = new Yard();
        bad.put(1, 0, 10);
        bad.put(4, 0, 20);
        bad.open(0, 49);
        checks.due("a bay that is not bad, however far", bad.robot.refuge(1), 49);
        checks.due("the front bay before its own is not bad for it", bad.robot.refuge(0), 0);
        bad.robot.retrieve(0);
        checks.refused("a car that is gone", INDEX, () -> bad.robot.refuge(0));

        Yard large = new Yard();
        large.put(4, 1, 20);
        large.open(2, 7, 8);
        checks.due("a large car in a wide bay", large.robot.refuge(0), 8);
    }

    private void bays() {
        checks.part("11 bays");
        Yard yard = Yard.pair(10, 20);
        yard.put(11, 0, 10);
        yard.put(10, 0, 10);
        yard.put(14, 0, 5);
        yard.open(0, 1, 2, 3, 15);
        int[] counts = {5, 3, 2, 55, 2, 1};
        for (int what = 0; what < 6; what++) {
            checks.due("bays(" + what + ")", yard.robot.bays(what), counts[what]);
        }
        for (int wrong : new int[] {-1, 6, LEAST, MOST}) {
            checks.refused("bays(" + wrong + ")", ARGUMENT, () -> yard.robot.bays(wrong));
        }
    }

    // ---- 12 to 16

    private void bestOrder() {
        checks.part("12 to 15 best and plain orders");
        Yard yard = Yard.pair(1, 2);
        yard.open(13);
        ParkingRobot x = yard.robot;
        checks.due("bestMoves(3)", x.bestMoves(3), 2);
        checks.due("bestEnd(3)", x.bestEnd(3), 22);
        checks.due("bestCar(3, 0)", x.bestCar(3, 0), 1);
        checks.due("bestCar(3, 1)", x.bestCar(3, 1), 0);
        checks.due("plainMoves(3)", x.plainMoves(3), 3);
        checks.due("bestMoves(1)", x.bestMoves(1), 2);
        checks.due("bestEnd(1)", x.bestEnd(1), 25);
        checks.due("plainMoves(1)", x.plainMoves(1), 2);
        checks.due("bestMoves(2)", x.bestMoves(2), 1);
        checks.due("nothing changes", x.jobs(), 2);
        x.pass(100);
        checks.due("the end is a time", x.bestEnd(3), 111);
    }

    private void bestOrderBreaksTies() {
        checks.part("12 to 14 ties");
        Yard same = new Yard();
        same.put(10, 0, 9);
        same.put(0, 0, 1);
        same.robot.pass(100);
        checks.due("the least by numbers first", same.robot.bestCar(3, 0), 0);
        checks.due("and then", same.robot.bestCar(3, 1), 1);
        // 2 to take out, 2 to hand over, 2 at the gate; the second car is at the lift at 106
        checks.due("bestEnd(3)", same.robot.bestEnd(3), 110);

        Yard near = new Yard();
        near.put(10, 0, 1);
        near.put(48, 0, 2);
        near.robot.pass(100);
        // the lift is on level 2: first 48 is at it at 106, handed over at 108, out at 116, then 10 at 116 + 2 + 2
        // first 10: the lift is there at 106, it is out at 110, then 48: 110 + 6 + 2 + 6 + 2 = 126
        checks.due("the lesser end decides before numbers", near.robot.bestCar(3, 0), 1);
        checks.due("bestEnd(3)", near.robot.bestEnd(3), 120);
    }

    private void impossibleOrders() {
        checks.part("12 to 16 impossible orders");
        Yard yard = Yard.pair(1, 2);
        yard.open();
        ParkingRobot x = yard.robot;
        checks.refused("bestMoves(1)", ELEMENT, () -> x.bestMoves(1));
        checks.refused("bestEnd(1)", ELEMENT, () -> x.bestEnd(1));
        checks.refused("bestCar(1, 0)", ELEMENT, () -> x.bestCar(1, 0));
        checks.refused("bestCar(1, 1)", ARGUMENT, () -> x.bestCar(1, 1));
        checks.refused("plainMoves(1)", ELEMENT, () -> x.plainMoves(1));
        checks.refused("plainMoves(3)", ELEMENT, () -> x.plainMoves(3));
        checks.refused("retrieveAll(1)", ELEMENT, () -> x.retrieveAll(1));
        checks.refused("no report of orders", ELEMENT, () -> x.report(0, 0));
        checks.due("the other order is possible", x.bestMoves(3), 2);
        checks.due("nothing changed", x.bays(0), 2);
    }

    private void wrongSets() {
        checks.part("12 to 16 wrong sets");
        ParkingRobot x = new ParkingRobot();
        for (int i = 0; i < 7; i++) {
            x.store(0, 5);
        }
        x.retrieve(6);
        for (long wrong : new long[] {0, 64, 65, 127, 1L << 40, 1L << 63, -1, Long.MAX_VALUE}) {
            checks.refused("bestMoves(" + wrong + ")", INDEX, () -> x.bestMoves(wrong));
            checks.refused("bestEnd(" + wrong + ")", INDEX, () -> x.bestEnd(wrong));
            checks.refused("bestCar(" + wrong + ", -1)", INDEX, () -> x.bestCar(wrong, -1));
            checks.refused("plainMoves(" + wrong + ")", INDEX, () -> x.plainMoves(wrong));
            checks.refused("retrieveAll(" + wrong + ")", INDEX, () -> x.retrieveAll(wrong));
        }
        checks.refused("bestMoves(63)", ARGUMENT, () -> x.bestMoves(63));
        checks.refused("bestEnd(63)", ARGUMENT, () -> x.bestEnd(63));
        checks.refused("bestCar(63, 0)", ARGUMENT, () -> x.bestCar(63, 0));
        checks.refused("plainMoves(63)", ARGUMENT, () -> x.plainMoves(63));
        checks.refused("retrieveAll(63)", ARGUMENT, () -> x.retrieveAll(63));
        checks.due("five cars are allowed", x.bestMoves(62), 5);
        checks.due("bestCar(62, 4) is a car of the set", x.bestCar(62, 4) > 0, true);
        for (int wrong : new int[] {-1, 5, LEAST, MOST}) {
            checks.refused("bestCar(62, " + wrong + ")", ARGUMENT, () -> x.bestCar(62, wrong));
        }
    }

    private void plainOrder() {
        checks.part("15 plainMoves");
        Yard same = Yard.pair(7, 7);
        same.open(13);
        checks.due("for the same pickup by numbers", same.robot.plainMoves(3), 3);
        same.robot.book(0, 8);
        checks.due("by pickups", same.robot.plainMoves(3), 2);
    }

    private void retrieveAll() {
        checks.part("16 retrieveAll");
        Yard yard = Yard.pair(1, 2);
        yard.open(13);
        ParkingRobot x = yard.robot;
        checks.due("retrieveAll(3)", x.retrieveAll(3), 22);
        checks.job(x, 2, 1, 0, -1, 9, 17);
        checks.job(x, 3, 0, 1, -1, 15, 22);
        checks.due("account(2)", x.account(2), 2);
        checks.due("bays(0)", x.bays(0), 0);
        checks.due("it is one change", x.undo(), 5);
        checks.due("both are back", x.bays(0), 2);
        checks.due("retrieveAll(1)", x.retrieveAll(1), 25);
        checks.due("the other one was moved", x.car(1, 2), 13);
    }

    // ---- 17

    private void tidy() {
        checks.part("17 tidy");
        Yard yard = Yard.pair(10, 20);
        yard.open(13);
        ParkingRobot x = yard.robot;
        checks.due("tidy()", x.tidy(), 1);
        checks.due("the front car is moved", x.car(1, 2), 13);
        checks.job(x, 2, 1, 0, 13, 11, 17);
        checks.due("account(3)", x.account(3), 1);
        checks.due("tidy()", x.tidy(), 0);
        x.undo();
        checks.due("also nothing is a change", x.car(1, 2), 13);
        x.undo();
        checks.due("after undo", x.car(1, 2), 0);
        x.book(1, 10);
        checks.due("an equal pickup is not earlier", x.tidy(), 0);

        Yard bad = new Yard();
        bad.put(3, 0, 5);
        bad.put(1, 0, 10);
        bad.put(0, 0, 20);
        bad.open(2);
        checks.due("there is a bad bay only", bad.robot.tidy(), 0);
        bad.open();
        checks.due("there is no bay", bad.robot.tidy(), 0);
        checks.refused("no report", ELEMENT, () -> bad.robot.report(0, 0));
        bad.open(2, 42);
        checks.due("there is another one", bad.robot.tidy(), 1);
        checks.due("car(2, 2)", bad.robot.car(2, 2), 42);
    }

    private void tidyInOrder() {
        checks.part("17 tidy, in order");
        checks.due("the earlier pickup first", twoPairs(10, 9).robot.bay(13, 6), 3);
        checks.due("the earlier pickup first", twoPairs(9, 10).robot.bay(13, 6), 2);
        checks.due("for the same pickup the lower car", twoPairs(9, 9).robot.bay(13, 6), 2);
    }

    /** Tidied with one refuge: car 0 behind car 2 in the bays 21 and 20, car 1 behind car 3 in the bays 1 and 0. */
    private static Yard twoPairs(int first, int second) {
        Yard yard = new Yard();
        yard.put(21, 0, first);
        yard.put(1, 0, second);
        yard.put(20, 0, 50);
        yard.put(0, 0, 50);
        yard.open(13);
        yard.robot.tidy();
        return yard;
    }

    // ---- 18 to 24

    private void pass() {
        checks.part("18 pass");
        ParkingRobot x = new ParkingRobot();
        checks.due("pass(1)", x.pass(1), 1);
        checks.due("pass(998)", x.pass(998), 999);
        for (int i = 2; i <= 10; i++) {
            checks.due("pass(999)", x.pass(999), 999 * i);
        }
        checks.refused("pass(10)", STATE, () -> x.pass(10));
        checks.due("pass(9)", x.pass(9), 9999);
        checks.refused("pass(1)", STATE, () -> x.pass(1));
        for (int wrong : new int[] {0, -1, 1000, LEAST, MOST}) {
            checks.refused("pass(" + wrong + ")", ARGUMENT, () -> x.pass(wrong));
        }
        checks.due("account(0)", x.account(0), 9999);
        x.undo();
        checks.due("after undo", x.account(0), 9990);
    }

    private void machine() {
        checks.part("19 machine");
        ParkingRobot x = farAndNear().robot;
        x.pass(500);
        checks.machine(x, 1, 4, 14, 14);
        checks.machine(x, 3, 0, 14, 14);
        for (int wrong : new int[] {-1, 4, LEAST, MOST}) {
            checks.refused("machine(" + wrong + ", 3)", INDEX, () -> x.machine(wrong, 3));
        }
        for (int wrong : new int[] {-1, 3, LEAST, MOST}) {
            checks.refused("machine(3, " + wrong + ")", ARGUMENT, () -> x.machine(3, wrong));
        }
    }

    private void jobs() {
        checks.part("20 and 21 jobs and job");
        ParkingRobot x = new ParkingRobot();
        for (int car = 0; car < 10; car++) {
            x.store(1, 0);
            x.retrieve(car);
        }
        checks.due("jobs()", x.jobs(), 20);
        checks.due("job(0, 0)", x.job(0, 0), 0);
        checks.due("job(0, 1)", x.job(0, 1), -1);
        checks.due("job(0, 2)", x.job(0, 2), 0);
        x.store(1, 0);
        checks.due("jobs()", x.jobs(), 20);
        checks.due("job(0, 0)", x.job(0, 0), 0);
        checks.due("job(0, 1)", x.job(0, 1), 0);
        checks.due("job(0, 2)", x.job(0, 2), -1);
        checks.due("job(19, 0)", x.job(19, 0), 10);
        checks.due("job(19, 4)", x.job(19, 4), x.account(5));
        for (int wrong : new int[] {-1, 20, LEAST, MOST}) {
            checks.refused("job(" + wrong + ", 5)", INDEX, () -> x.job(wrong, 5));
        }
        for (int wrong : new int[] {-1, 5, LEAST, MOST}) {
            checks.refused("job(19, " + wrong + ")", ARGUMENT, () -> x.job(19, wrong));
        }
        x.undo();
        checks.due("undo brings back the oldest", x.job(0, 1), -1);
        checks.refused("a new object has none", INDEX, () -> new ParkingRobot().job(0, 0));
    }

    private void account() {
        checks.part("22 account");
        Yard yard = Yard.pair(1, 2);
        yard.open(43);
        yard.robot.retrieve(0);
        yard.robot.pass(7);
        int[] accounts = {7, 2, 1, 1, 7 + 7 + 27 + 18, 33};
        for (int what = 0; what < 6; what++) {
            checks.due("account(" + what + ")", yard.robot.account(what), accounts[what]);
        }
        for (int wrong : new int[] {-1, 6, LEAST, MOST}) {
            checks.refused("account(" + wrong + ")", ARGUMENT, () -> yard.robot.account(wrong));
        }
    }

    private void loadAndMean() {
        checks.part("23 and 24 load and meanJob");
        ParkingRobot x = farAndNear().robot;
        x.pass(100);
        x.retrieve(0);
        checks.due("load(1)", x.load(1), 23f / 109f);
        checks.due("load(3)", x.load(3), 28f / 114f);
        checks.due("meanJob()", x.meanJob(), 44.0 / 3.0);
        checks.refused("load(2)", ARITHMETIC, () -> x.load(2));
        for (int wrong : new int[] {-1, 4, LEAST, MOST}) {
            checks.refused("load(" + wrong + ")", INDEX, () -> x.load(wrong));
        }
        checks.refused("no jobs", ARITHMETIC, () -> new ParkingRobot().meanJob());
        Yard many = new Yard();
        for (int car = 0; car < 12; car++) {
            many.robot.store(0, 0);
            many.robot.retrieve(car);
        }
        checks.due("all jobs, kept or not", many.robot.meanJob(), many.robot.account(4) / 24.0);
    }

    // ---- 25 to 30

    private void report() {
        checks.part("25 report");
        Yard yard = new Yard();
        yard.put(1, 0, 5);
        yard.put(0, 1, 5);
        yard.put(14, 1, 5);
        yard.open(2, 12, 13, 15);
        ParkingRobot x = yard.robot;
        checks.refused("no report yet", ELEMENT, () -> x.report(0, 0));
        checks.refused("no report comes before a wrong part", ELEMENT, () -> x.report(0, 2));
        checks.refused("retrieve(0)", UNSUPPORTED, () -> x.retrieve(0));
        checks.reported(x, 0, 1, 4);
        for (int wrong : new int[] {-1, 3, LEAST, MOST}) {
            checks.refused("report(" + wrong + ", 2)", ELEMENT, () -> x.report(wrong, 2));
        }
        for (int wrong : new int[] {-1, 2, LEAST, MOST}) {
            checks.refused("report(0, " + wrong + ")", ARGUMENT, () -> x.report(0, wrong));
        }
        yard.open();
        checks.refused("a wrong car leaves no report", INDEX, () -> x.retrieve(9));
        checks.reported(x, 0, 1, 4);
        yard.open(0);
        checks.refused("an open bay with a car does not count", UNSUPPORTED, () -> x.retrieve(0));
        checks.reported(x, 0, 1, 0);
        checks.due("a retrieval that succeeds leaves it", x.retrieve(1), 1);
        checks.reported(x, 0, 1, 0);
    }

    private void feed() {
        checks.part("26 feed");
        ParkingRobot x = new ParkingRobot();
        for (int i = 1; i <= 60; i++) {
            char letter = (char) (i * 1097);
            checks.due("feed", x.feed(letter), i);
        }
        checks.refused("the 61st", STATE, () -> x.feed('s'));
        checks.due("perform()", x.perform(), -100);
        checks.due("the buffer is empty", x.feed('s'), 1);
    }

    private void performCarriesOut() {
        checks.part("27 perform, carried out");
        ParkingRobot x = new ParkingRobot();
        checks.performed(x, "s0,0050;s1,5;t0999;c0007;o7;r0;", 6);
        checks.due("account(0)", x.account(0), 999);
        checks.due("account(1)", x.account(1), 2);
        checks.due("account(2)", x.account(2), 1);
        checks.due("car(1, 0)", x.car(1, 0), 1);
        checks.due("car(1, 1)", x.car(1, 1), 5);
        checks.due("bay(7, 5)", x.bay(7, 5), 0);
        checks.due("it is one change", x.undo(), 0);
        checks.due("all of it is taken back", x.account(1), 0);
        checks.performed(x, "c59;", 1);
        checks.due("bay(59, 5)", x.bay(59, 5), 1);
        checks.performed(x, "o1;".repeat(20), 20);
        checks.performed(x, "t1;".repeat(20), 20);
        checks.due("account(0)", x.account(0), 20);
        checks.performed(x, "s1,9999;", 1);
        checks.due("car(0, 1)", x.car(0, 1), 9999);
        checks.due("undo()", x.undo(), 3);
    }

    private void performFindsErrors() {
        checks.part("27 perform, syntax errors");
        ParkingRobot x = new ParkingRobot();
        String[] texts = {"", "x", ";", "s", "s2", "s0", "s0;", "s0,", "s0,;", "s0,1", "s01,", "s0,12345;", "r", "r;",
            "r12345", "r0", "r0;x", "r0;;", "r0; ", "R0;", "t-1;", "c+1;", "o1,", "s0,1;s1,2;s", "r1;t", "s-1,0;",
            " r0;", "r\u0661;", "r0\uffff", "\u0000", "r 0;", "s0,1 ;", "q".repeat(60)};
        int[] positions = {0, 0, 0, 1, 1, 2, 2, 3, 3, 4, 2, 7, 1, 1, 5, 2, 3, 3, 3, 0, 1, 1, 2, 11, 4, 1, 0, 1, 2, 0, 1,
            4, 0};
        for (int i = 0; i < texts.length; i++) {
            checks.performed(x, texts[i], -100 - positions[i]);
        }
        checks.performed(x, "c1;".repeat(19) + "c12", -160);
        checks.due("nothing was carried out", x.account(1) + x.bays(3), 0);
        checks.refused("no change", STATE, x::undo);
        checks.due("perform()", x.perform(), -100);
    }

    private void performTakesAllBack() {
        checks.part("27 perform, not carried out");
        ParkingRobot x = new ParkingRobot();
        for (String text : new String[] {"t0;", "t1000;", "c60;", "o60;", "r1;", "s0,1;r2;", "r0;r0;"}) {
            checks.notPerformed(x, "s0,7;c5;t5;" + text);
        }
        checks.due("no car came", x.account(1), 0);
        checks.due("no bay is closed", x.bays(3), 0);
        checks.due("no time passed", x.account(0), 0);
        checks.due("no job is kept", x.jobs(), 0);
        checks.refused("no change", STATE, x::undo);
        checks.refused("no report", ELEMENT, () -> x.report(0, 0));

        Yard yard = Yard.pair(5, 5);
        yard.open(2, 13, 15);
        checks.notPerformed(yard.robot, "c13;c15;s0,1;r0;");
        checks.reported(yard.robot, 0, 1, 0);
        checks.due("the bays are open again", yard.robot.bays(1), 3);
        checks.performed(yard.robot, "c13;r0;", 2);
        checks.due("the blocking car was moved", yard.robot.car(1, 2), 2);

        Yard full = new Yard();
        full.open();
        checks.notPerformed(full.robot, "o0;c0;s0,1;");
        ParkingRobot late = new ParkingRobot();
        for (int i = 0; i < 10; i++) {
            late.pass(999);
        }
        checks.notPerformed(late, "t0009;t1;");
    }

    private void undo() {
        checks.part("28 undo");
        ParkingRobot x = new ParkingRobot();
        checks.refused("nothing to take back", STATE, x::undo);
        x.store(0, 5);
        x.retrieve(0);
        x.store(1, 6);
        x.book(1, 7);
        x.setClosed(3, true);
        x.pass(10);
        x.tidy();
        x.retrieveAll(2);
        for (int left = 5; left >= 0; left--) {
            checks.due("undo()", x.undo(), left);
        }
        checks.refused("at most 6", STATE, x::undo);
        checks.due("account(1)", x.account(1), 1);
        checks.due("account(2)", x.account(2), 1);
        checks.due("jobs()", x.jobs(), 2);
        checks.due("numbers come back", x.store(0, 9), 0);
        checks.due("car(1, 1)", x.car(1, 1), 9);
        x.store(0, 9);
        checks.due("undo()", x.undo(), 1);
        x.pass(1);
        checks.due("a change after an undo", x.undo(), 1);
        checks.due("undo()", x.undo(), 0);
        checks.refused("a refused call is no change", INDEX, () -> x.retrieve(5));
        checks.refused("nothing to take back", STATE, x::undo);
    }

    private void undoKeepsBufferAndReport() {
        checks.part("28 undo, what stays");
        Yard yard = Yard.pair(5, 5);
        yard.open();
        ParkingRobot x = yard.robot;
        checks.refused("retrieve(0)", UNSUPPORTED, () -> x.retrieve(0));
        x.pass(5);
        x.feed('t');
        x.undo();
        checks.reported(x, 0, 1, 0);
        checks.due("the buffer stays", x.feed('7'), 2);
        x.feed(';');
        checks.due("perform()", x.perform(), 1);
        checks.due("account(0)", x.account(0), 7);
        x.save();
        x.undo();
        checks.due("what was saved stays too", x.restore(), 2);
        checks.due("account(0)", x.account(0), 7);
    }

    private void saveAndRestore() {
        checks.part("29 and 30 save and restore");
        Yard yard = Yard.pair(5, 5);
        ParkingRobot x = yard.robot;
        checks.refused("nothing was saved", STATE, x::restore);
        checks.due("the changes stay", x.undo(), 5);
        x.store(0, 5);
        checks.due("save()", x.save(), 2);
        checks.due("save is no change", x.undo(), 5);
        checks.due("account(1)", x.account(1), 1);
        yard.open();
        x.pass(77);
        x.feed('t');
        checks.due("restore()", x.restore(), 2);
        checks.due("account(0)", x.account(0), 0);
        checks.due("bay(0, 5)", x.bay(0, 5), 0);
        checks.due("machine(0, 1)", x.machine(0, 1), 11);
        checks.due("jobs()", x.jobs(), 2);
        checks.refused("no change can be taken back", STATE, x::undo);
        checks.due("the buffer stays", x.feed('1'), 2);
        x.retrieve(1);
        checks.due("what was saved stays saved", x.restore(), 2);
        x.setClosed(0, true);
        checks.refused("retrieve(0)", UNSUPPORTED, () -> x.retrieve(0));
        x.retrieve(1);
        checks.due("saved in place of what was", x.save(), 1);
        x.retrieve(0);
        checks.due("restore()", x.restore(), 1);
        checks.reported(x, 0, 1, 0);
    }
}
