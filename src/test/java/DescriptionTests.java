import java.io.IOException;
import java.util.NoSuchElementException;

/**
 * The sentences of the document's description, in their order, each with its boundary cases; what is due is worked
 * out by hand. The sentences of the promises follow in BoundaryTests.
 */
public final class DescriptionTests {
    private static final Class<IndexOutOfBoundsException> INDEX = IndexOutOfBoundsException.class;
    private static final Class<IllegalArgumentException> ARGUMENT = IllegalArgumentException.class;
    private static final Class<IllegalStateException> STATE = IllegalStateException.class;
    private static final Class<UnsupportedOperationException> UNSUPPORTED = UnsupportedOperationException.class;
    private static final Class<NoSuchElementException> ELEMENT = NoSuchElementException.class;
    private static final Class<ArithmeticException> ARITHMETIC = ArithmeticException.class;

    /** Sentences that name no boundary case, but what the others are about. */
    private static final String[] WITHOUT_BOUNDARY = {
        "A parking robot: bays in front of bays on several levels, one lift for all and a shuttle on each level, whose "
            + "times are kept apart, cars that are put where they block no earlier one, retrievals that move other "
            + "cars out of the way, orders of retrievals with the fewest moves by exact search, tidying by bookings, "
            + "closed bays, reports with causes, commands as texts, accounts, and undo.",
        "All numbers are integers, apart from two methods that return floating-point numbers.",
        "The class is not thread-safe.",
        "The constructor and the methods follow, a promise each: the signature, then what it does."};

    private final Checks checks = new Checks();
    private final Document document;

    private DescriptionTests() throws IOException {
        document = new Document();
    }

    public static void main(String[] args) throws IOException {
        DescriptionTests tests = new DescriptionTests();
        tests.all();
        tests.checks.finish("DescriptionTests");
    }

    private void all() {
        manyCalls();
        refusedCallsChangeNothing();
        refusedCallsAtLimitsChangeNothing();
        errorCodesChangeNothing();
        firstExceptionOfCars();
        firstExceptionOfOrders();
        firstExceptionOfTheRest();
        times();
        levelsSidesColumns();
        numbersOfBays();
        wideAndNarrow();
        openAndClosed();
        reached();
        fortyCars();
        sizesAndPickups();
        largeCars();
        storedAndGone();
        candidates();
        badCandidates();
        betterCandidates();
        effortsToCome();
        effortsToMove();
        liftAtFirst();
        shuttlesAtFirst();
        readiness();
        paces();
        workAtBays();
        handovers();
        gate();
        jobsOneAfterTheOther();
        machinesDoNotWait();
        storing();
        retrieving();
        movingOnALevel();
        movingToAnotherLevel();
        beginningAndEndOfJobs();
        lastTwentyJobs();
        blocking();
        retrievedAfterwards();
        refusedRetrieval();
        endOfAnOrder();
        endAmongTwentyJobs();
        impossibleOrder();
        bestOrder();
        plainOrder();
        tidiedBays();
        tidiedIfNotBad();
        reportStays();
        reportLevels();
        noReportOfOrders();
        commands();
        numbersInCommands();
        errorPositions();
        backBayWhileMoved();
        sides();
        readyMachinesBegin();
        presentTimeStays();
        otherFrontCar();
        countInReports();
        movesOfAnOrder();
        numbersOfCars();
        minutesOfMachines();
        everySentenceIsQuoted();
    }

    private void says(String... parts) {
        String sentence = String.join(" ", parts);
        checks.part(sentence);
        checks.due("the document", document.quote(Document.DESCRIPTION, sentence), true);
    }

    private void everySentenceIsQuoted() {
        for (String sentence : WITHOUT_BOUNDARY) {
            says(sentence);
        }
        checks.part("every sentence is quoted");
        checks.due("those left", document.left(Document.DESCRIPTION, Document.DESCRIPTION).toString(), "[]");
    }

    // ---- What it is, Description

    private void manyCalls() {
        says("An object is used for at most 512 calls after it has been made; what later calls answer is free.");
        ParkingRobot x = new ParkingRobot();
        for (int call = 1; call <= 511; call++) {
            checks.due("call " + call, x.pass(1), call);
        }
        checks.due("the 512th call", x.undo(), 5);
        ParkingRobot busy = new ParkingRobot();
        for (int i = 0; i < 127; i++) {
            busy.store(1, 0);
            busy.retrieve(0);
            busy.undo();
            busy.undo();
        }
        busy.store(0, 0);
        busy.store(0, 0);
        busy.undo();
        checks.due("the 512th call", busy.bay(10, 6), -1);
    }

    private void refusedCallsChangeNothing() {
        says("A method that throws an exception or returns an error code leaves the state unchanged, unless its",
            "description says otherwise.");
        checks.leavesAlone("store(2, 0)", ARGUMENT, Yard::stuck, x -> x.store(2, 0));
        checks.leavesAlone("store(0, 10000)", ARGUMENT, Yard::stuck, x -> x.store(0, 10000));
        checks.leavesAlone("store(0, 0)", UNSUPPORTED, Yard::stuck, x -> x.store(0, 0));
        checks.leavesAlone("retrieve(3)", INDEX, Yard::stuck, x -> x.retrieve(3));
        // the report that it leaves is the same as the one that is there
        checks.leavesAlone("retrieve(0)", UNSUPPORTED, Yard::stuck, x -> x.retrieve(0));
        checks.leavesAlone("book(3, 0)", INDEX, Yard::stuck, x -> x.book(3, 0));
        checks.leavesAlone("book(0, 10000)", ARGUMENT, Yard::stuck, x -> x.book(0, 10000));
        checks.leavesAlone("book(0, -1)", ARGUMENT, Yard::stuck, x -> x.book(0, -1));
        checks.leavesAlone("car(3, 0)", INDEX, Yard::stuck, x -> x.car(3, 0));
        checks.leavesAlone("car(0, 5)", ARGUMENT, Yard::stuck, x -> x.car(0, 5));
        checks.leavesAlone("due(10000)", ARGUMENT, Yard::stuck, x -> x.due(10000));
        checks.leavesAlone("setClosed(60, false)", INDEX, Yard::stuck, x -> x.setClosed(60, false));
        checks.leavesAlone("setClosed(-1, false)", INDEX, Yard::stuck, x -> x.setClosed(-1, false));
        checks.leavesAlone("bay(60, 0)", INDEX, Yard::stuck, x -> x.bay(60, 0));
        checks.leavesAlone("bay(0, 8)", ARGUMENT, Yard::stuck, x -> x.bay(0, 8));
        checks.leavesAlone("choice(2, 0)", ARGUMENT, Yard::stuck, x -> x.choice(2, 0));
        checks.leavesAlone("choice(0, 0)", ELEMENT, Yard::stuck, x -> x.choice(0, 0));
        checks.leavesAlone("refuge(3)", INDEX, Yard::stuck, x -> x.refuge(3));
        checks.leavesAlone("refuge(1)", ELEMENT, Yard::stuck, x -> x.refuge(1));
        checks.leavesAlone("bays(6)", ARGUMENT, Yard::stuck, x -> x.bays(6));
        checks.leavesAlone("machine(4, 0)", INDEX, Yard::stuck, x -> x.machine(4, 0));
        checks.leavesAlone("machine(0, 3)", ARGUMENT, Yard::stuck, x -> x.machine(0, 3));
        checks.leavesAlone("job(9, 0)", INDEX, Yard::stuck, x -> x.job(9, 0));
        checks.leavesAlone("job(0, 5)", ARGUMENT, Yard::stuck, x -> x.job(0, 5));
        checks.leavesAlone("account(6)", ARGUMENT, Yard::stuck, x -> x.account(6));
        checks.leavesAlone("load(4)", INDEX, Yard::stuck, x -> x.load(4));
        checks.leavesAlone("load(2)", ARITHMETIC, Yard::stuck, x -> x.load(2));
        checks.leavesAlone("report(3, 0)", ELEMENT, Yard::stuck, x -> x.report(3, 0));
        checks.leavesAlone("report(0, 2)", ARGUMENT, Yard::stuck, x -> x.report(0, 2));
        checks.leavesAlone("pass(0)", ARGUMENT, Yard::stuck, x -> x.pass(0));
        // the cars 0 and 2: an order that begins with car 2 makes a job before it is refused
        checks.leavesAlone("bestMoves(5)", ELEMENT, Yard::stuck, x -> x.bestMoves(5));
        checks.leavesAlone("bestEnd(5)", ELEMENT, Yard::stuck, x -> x.bestEnd(5));
        checks.leavesAlone("bestCar(5, 0)", ELEMENT, Yard::stuck, x -> x.bestCar(5, 0));
        checks.leavesAlone("plainMoves(5)", ELEMENT, Yard::stuck, x -> x.plainMoves(5));
        checks.leavesAlone("retrieveAll(5)", ELEMENT, Yard::stuck, x -> x.retrieveAll(5));
        checks.leavesAlone("retrieveAll(0)", INDEX, Yard::stuck, x -> x.retrieveAll(0));
        checks.leavesAlone("retrieveAll(15)", INDEX, Yard::stuck, x -> x.retrieveAll(15));
    }

    private void refusedCallsAtLimitsChangeNothing() {
        checks.part("refused calls at limits change nothing");
        checks.leavesAlone("store(0, 0), the 41st", STATE, () -> Yard.after(40), x -> x.store(0, 0));
        checks.leavesAlone("pass(1) at 9999", STATE, Yard::late, x -> x.pass(1));
        checks.leavesAlone("pass(1000)", ARGUMENT, Yard::late, x -> x.pass(1000));
        checks.leavesAlone("undo() of nothing", STATE, ParkingRobot::new, x -> x.undo());
        checks.leavesAlone("restore() of nothing", STATE, DescriptionTests::changedTwice, x -> x.restore());
        checks.leavesAlone("meanJob() of no jobs", ARITHMETIC, ParkingRobot::new, x -> x.meanJob());
        checks.leavesAlone("report(0, 0), no report", ELEMENT, DescriptionTests::changedTwice, x -> x.report(0, 0));
        checks.leavesAlone("feed, the 61st", STATE, DescriptionTests::fed60, x -> x.feed(';'));
        checks.leavesAlone("retrieveAll of six", ARGUMENT, Yard::sixAndABlocker, x -> x.retrieveAll(63));
    }

    private static ParkingRobot changedTwice() {
        ParkingRobot x = new ParkingRobot();
        x.store(0, 5);
        x.setClosed(9, true);
        return x;
    }

    private static ParkingRobot fed60() {
        ParkingRobot x = changedTwice();
        Checks.type(x, "t1;".repeat(20));
        return x;
    }

    private void errorCodesChangeNothing() {
        checks.part("an error code changes nothing but the buffer");
        checks.due("perform() of a text with an error at its end", (Object) Sight.rest(performedBy("s0,7;c5;r1;o0;x")),
            Sight.rest(performedBy("x")));
        checks.part("an exception of perform changes nothing but the buffer");
        checks.due("perform() of a text whose last command is refused",
            (Object) Sight.rest(performedBy("s0,7;c5;r1;t0;")), Sight.rest(performedBy("x")));
    }

    private static ParkingRobot performedBy(String text) {
        Yard yard = Yard.pair(10, 5);
        yard.robot.save();
        yard.open(4, 6);
        Checks.type(yard.robot, text);
        Checks.answer(yard.robot::perform);
        return yard.robot;
    }

    private void firstExceptionOfCars() {
        says("If several exceptions apply, the one named first is thrown.");
        ParkingRobot full = Yard.after(40);
        checks.refused("a wrong size and 40 cars", ARGUMENT, () -> full.store(2, 0));
        checks.refused("a wrong pickup and 40 cars", ARGUMENT, () -> full.store(0, -1));
        ParkingRobot x = Yard.stuck();
        checks.refused("a wrong size and no candidate", ARGUMENT, () -> x.store(-1, 0));
        checks.refused("a wrong pickup and no candidate", ARGUMENT, () -> x.store(1, 10000));
        checks.refused("no such car and a wrong pickup", INDEX, () -> x.book(3, 10000));
        checks.refused("no such car and a wrong what", INDEX, () -> x.car(-1, 5));
        checks.refused("no such bay and a wrong what", INDEX, () -> x.bay(60, -1));
        checks.refused("a wrong size and no candidate", ARGUMENT, () -> x.choice(2, 0));
        checks.refused("a wrong pickup and no candidate", ARGUMENT, () -> x.choice(0, 10000));
        for (int bay = 0; bay < 60; bay++) {
            full.setClosed(bay, true);
        }
        checks.refused("40 cars and no candidate", STATE, () -> full.store(0, 0));
        checks.refused("all three", ARGUMENT, () -> full.store(0, 10000));
    }

    private void firstExceptionOfOrders() {
        checks.part("the exception named first, of orders");
        ParkingRobot x = Yard.sixAndABlocker();
        checks.due("six cars, of which car 0 cannot be retrieved", x.due(10), 127L);
        long notStored = 63 | 1L << 7;
        checks.refused("bestMoves: not stored and more than 5", INDEX, () -> x.bestMoves(notStored));
        checks.refused("bestEnd: not stored and more than 5", INDEX, () -> x.bestEnd(notStored));
        checks.refused("bestCar: not stored and more than 5", INDEX, () -> x.bestCar(notStored, 9));
        checks.refused("plainMoves: not stored and more than 5", INDEX, () -> x.plainMoves(notStored));
        checks.refused("retrieveAll: not stored and more than 5", INDEX, () -> x.retrieveAll(notStored));
        checks.refused("bestMoves: more than 5 and impossible", ARGUMENT, () -> x.bestMoves(63));
        checks.refused("bestEnd: more than 5 and impossible", ARGUMENT, () -> x.bestEnd(63));
        checks.refused("bestCar: more than 5 and impossible", ARGUMENT, () -> x.bestCar(63, 0));
        checks.refused("plainMoves: more than 5 and impossible", ARGUMENT, () -> x.plainMoves(63));
        checks.refused("retrieveAll: more than 5 and impossible", ARGUMENT, () -> x.retrieveAll(63));
        checks.refused("bestCar: no such place and impossible", ARGUMENT, () -> x.bestCar(31, 5));
        checks.refused("bestCar: empty and no such place", INDEX, () -> x.bestCar(0, 0));
        checks.refused("and the set of 5 is impossible", ELEMENT, () -> x.bestCar(31, 4));
    }

    private void firstExceptionOfTheRest() {
        checks.part("the exception named first, of the rest");
        ParkingRobot late = Yard.late();
        checks.refused("a wrong number and a time too late", ARGUMENT, () -> late.pass(1000));
        ParkingRobot x = new ParkingRobot();
        checks.refused("no such machine and a wrong what", INDEX, () -> x.machine(4, 3));
        checks.refused("no such job and a wrong what", INDEX, () -> x.job(0, 5));
        checks.refused("no such machine, and none was used", INDEX, () -> x.load(-1));
        checks.refused("no report and a wrong what", ELEMENT, () -> x.report(0, -1));
        checks.refused("no such level and a wrong what", ELEMENT, () -> Yard.stuck().report(3, 2));
    }

    private void times() {
        says("Times are whole minutes; the present time is at first 0.");
        ParkingRobot x = new ParkingRobot();
        checks.due("account(0)", x.account(0), 0);
        checks.due("pass(1)", x.pass(1), 1);
    }

    // ---- Bays

    private void levelsSidesColumns() {
        says("There are 3 levels, numbered from 0; each has 2 sides, 0 and 1, with 5 columns each, numbered from 0,",
            "and in each column a front bay, with the depth 0, and a back bay, with the depth 1, behind it.");
        ParkingRobot x = new ParkingRobot();
        int[] bays = {0, 1, 2, 8, 9, 10, 19, 20, 39, 40, 59};
        int[] levels = {0, 0, 0, 0, 0, 0, 0, 1, 1, 2, 2};
        int[] sides = {0, 0, 0, 0, 0, 1, 1, 0, 1, 0, 1};
        int[] columns = {0, 0, 1, 4, 4, 0, 4, 0, 4, 0, 4};
        int[] depths = {0, 1, 0, 0, 1, 0, 1, 0, 1, 0, 1};
        for (int i = 0; i < bays.length; i++) {
            checks.due("level of " + bays[i], x.bay(bays[i], 0), levels[i]);
            checks.due("side of " + bays[i], x.bay(bays[i], 1), sides[i]);
            checks.due("column of " + bays[i], x.bay(bays[i], 2), columns[i]);
            checks.due("depth of " + bays[i], x.bay(bays[i], 3), depths[i]);
        }
    }

    private void numbersOfBays() {
        says("A bay has the number ((level * 2 + side) * 5 + column) * 2 + depth, from 0 to 59.");
        ParkingRobot x = new ParkingRobot();
        for (int bay = 0; bay < 60; bay++) {
            int number = ((x.bay(bay, 0) * 2 + x.bay(bay, 1)) * 5 + x.bay(bay, 2)) * 2 + x.bay(bay, 3);
            checks.due("the number from the parts", number, bay);
        }
        checks.refused("the bay 60", INDEX, () -> x.bay(60, 0));
        checks.refused("the bay -1", INDEX, () -> x.bay(-1, 0));
    }

    private void wideAndNarrow() {
        says("Bays in even columns are wide, those in odd columns narrow.");
        ParkingRobot x = new ParkingRobot();
        for (int bay = 0; bay < 60; bay++) {
            int lastDigit = bay % 10;
            boolean isNarrow = lastDigit == 2 || lastDigit == 3 || lastDigit == 6 || lastDigit == 7;
            checks.due("bay(" + bay + ", 4)", x.bay(bay, 4), isNarrow ? 0 : 1);
        }
    }

    private void openAndClosed() {
        says("A bay is open, as at first, or closed.");
        ParkingRobot x = new ParkingRobot();
        for (int bay = 0; bay < 60; bay++) {
            checks.due("bay(" + bay + ", 5)", x.bay(bay, 5), 0);
        }
        x.setClosed(59, true);
        checks.due("bay(59, 5)", x.bay(59, 5), 1);
        checks.due("bay(58, 5)", x.bay(58, 5), 0);
    }

    private void reached() {
        says("A bay can be reached if it is a front bay, or there is no car in the front bay before it; whether",
            "that is open or closed does not matter.");
        Yard yard = Yard.pair(10, 5);
        yard.put(3, 0, 10);
        yard.put(4, 0, 10);
        yard.open(5, 7, 9, 8);
        ParkingRobot x = yard.robot;
        int[] bays = {0, 1, 2, 3, 4, 5, 6, 7, 8, 9};
        int[] want = {1, 0, 1, 1, 1, 0, 1, 1, 1, 1};
        for (int bay : bays) {
            checks.due("bay(" + bay + ", 7)", x.bay(bay, 7), want[bay]);
        }
        checks.due("a back bay behind a closed one is a candidate", x.choice(0, 0), 7);
        yard.open(4, 5);
        checks.due("behind an open bay with a car", x.bay(5, 7), 0);
        checks.refused("it is no candidate", ELEMENT, () -> x.choice(0, 0));
    }

    // ---- Cars

    private void fortyCars() {
        says("There are at most 40 cars in all, numbered from 0 in the order in which they come; numbers are not",
            "used again.");
        ParkingRobot x = new ParkingRobot();
        for (int car = 0; car < 39; car++) {
            x.store(0, 0);
            checks.due("the number of the next car", x.bay(0, 6), car);
            x.retrieve(car);
            checks.refused("its number is not used again", INDEX, () -> x.car(x.account(1) - 1, 0));
        }
        checks.due("the 40th car", x.store(0, 0), 0);
        checks.due("its number", x.bay(0, 6), 39);
        checks.refused("the 41st, though one car alone is stored", STATE, () -> x.store(0, 0));
        checks.due("account(1)", x.account(1), 40);
    }

    private void sizesAndPickups() {
        says("A car is small (0) or large (1), and has a pickup, a time from 0 to 9999, which can be past.");
        ParkingRobot x = new ParkingRobot();
        x.pass(100);
        checks.due("a pickup that is past", x.store(0, 99), 0);
        checks.due("the least size and pickup", x.store(0, 0), 10);
        checks.due("the greatest size and pickup", x.store(1, 9999), 4);
        checks.due("size", x.car(1, 0), 0);
        checks.due("pickup", x.car(1, 1), 0);
        checks.due("size", x.car(2, 0), 1);
        checks.due("pickup", x.car(2, 1), 9999);
        checks.refused("size -1", ARGUMENT, () -> x.store(-1, 0));
        checks.refused("size 2", ARGUMENT, () -> x.store(2, 0));
        checks.refused("pickup -1", ARGUMENT, () -> x.store(0, -1));
        checks.refused("pickup 10000", ARGUMENT, () -> x.store(0, 10000));
        checks.due("booked for a time that is past", x.book(2, 0), 9999);
    }

    private void largeCars() {
        says("Large cars need wide bays.");
        Yard yard = new Yard();
        yard.open(2, 3, 6, 7, 12, 13, 16, 17);
        checks.refused("narrow bays alone", UNSUPPORTED, () -> yard.robot.store(1, 0));
        yard.open(2, 59);
        checks.due("the wide one, however far", yard.robot.store(1, 0), 59);
        checks.due("a small car in the narrow one", yard.robot.store(0, 0), 2);
        yard.open(42);
        checks.refused("also when it is moved", ELEMENT, () -> yard.robot.refuge(0));
        checks.due("a small one can be moved there", yard.robot.refuge(1), 42);
    }

    private void storedAndGone() {
        says("A car that is stored is in one bay; a car that was retrieved is gone.");
        Yard yard = Yard.pair(10, 5);
        yard.open(15);
        ParkingRobot x = yard.robot;
        x.retrieve(0);
        for (int bay = 0; bay < 60; bay++) {
            checks.due("bay(" + bay + ", 6)", x.bay(bay, 6), bay == 15 ? 1 : -1);
        }
        checks.due("car(1, 2)", x.car(1, 2), 15);
        checks.refused("car(0, 2)", INDEX, () -> x.car(0, 2));
        checks.refused("retrieve(0)", INDEX, () -> x.retrieve(0));
        checks.refused("book(0, 5)", INDEX, () -> x.book(0, 5));
        checks.refused("refuge(0)", INDEX, () -> x.refuge(0));
        checks.refused("bestMoves(1)", INDEX, () -> x.bestMoves(1));
        checks.due("due(9999)", x.due(9999), 2L);
    }

    // ---- Choosing

    private void candidates() {
        says("When a bay is chosen for a car, the candidates are all bays that are open, without a car, wide if the",
            "car is large, and can be reached.");
        Yard yard = new Yard();
        yard.open(0, 2, 8, 9, 58);
        ParkingRobot x = yard.robot;
        checks.due("all of it", x.choice(1, 0), 0);
        x.setClosed(0, true);
        checks.due("0 is closed, 2 narrow", x.choice(1, 0), 8);
        checks.due("2 is wide enough for a small car", x.choice(0, 0), 2);
        x.setClosed(0, false);
        x.store(1, 0);
        checks.due("0 has a car", x.choice(1, 0), 8);
        x.store(1, 0);
        checks.due("8 has a car, 9 cannot be reached", x.choice(1, 0), 58);
        x.store(1, 0);
        checks.refused("only narrow ones are left", ELEMENT, () -> x.choice(1, 0));
        x.store(0, 0);
        checks.refused("none is left that can be reached", ELEMENT, () -> x.choice(0, 0));
        checks.due("though one is open without a car", x.bays(1), 1);
    }

    private void badCandidates() {
        says("A candidate is bad if it is a front bay and the car in the back bay behind it has an earlier pickup",
            "than the car.");
        Yard yard = new Yard();
        yard.put(1, 0, 10);
        yard.open(0, 59);
        ParkingRobot x = yard.robot;
        checks.due("the pickup behind is one later", x.choice(0, 9), 0);
        checks.due("the pickup behind is the same", x.choice(0, 10), 0);
        checks.due("the pickup behind is one earlier", x.choice(0, 11), 59);
        x.book(0, 0);
        checks.due("the least pickup behind", x.choice(0, 1), 59);
        checks.due("the least pickup before, too", x.choice(0, 0), 0);
        x.book(0, 9999);
        checks.due("the greatest pickup behind", x.choice(0, 9999), 0);
        x.book(0, 9998);
        checks.due("the greatest pickup before", x.choice(0, 9999), 59);

        Yard back = new Yard();
        back.put(0, 0, 10);
        back.put(4, 0, 0);
        back.open(3, 58);
        checks.due("a back bay is not bad for the cars beside it", back.robot.choice(0, 9999), 3);
    }

    private void betterCandidates() {
        says("A candidate that is not bad is better than one that is; among those that are alike in this, one with",
            "a lesser effort is better, and for the same effort one with a lower number.");
        Yard yard = new Yard();
        yard.put(1, 0, 10);
        yard.put(3, 0, 10);
        yard.put(13, 0, 10);
        yard.open(0, 2, 12, 59);
        ParkingRobot x = yard.robot;
        checks.due("not bad with the greatest effort", x.choice(0, 11), 59);
        yard.open(12, 2, 0);
        checks.due("of bad ones the lesser effort", x.choice(0, 11), 0);
        yard.open(12, 2);
        checks.due("of bad ones with the same effort the lower number", x.choice(0, 11), 2);
        checks.due("of ones that are not bad as well", x.choice(0, 10), 2);
        yard.open(20, 7);
        checks.due("the lesser effort, not the lower number", x.choice(0, 0), 20);

        Yard far = new Yard();
        far.put(49, 0, 10);
        far.put(19, 0, 99);
        far.put(8, 0, 99);
        far.open(18, 48);
        checks.due("moved: the one that is not bad", far.robot.refuge(2), 18);
        far.robot.book(1, 98);
        checks.due("moved: of bad ones the lesser effort", far.robot.refuge(2), 18);
        far.robot.book(0, 99);
        checks.due("moved: one that is not bad with 34, not a bad one with 0", far.robot.refuge(2), 48);
        far.open(18);
        checks.due("moved: the bad one if there is no other", far.robot.refuge(2), 18);
    }

    private void effortsToCome() {
        says("For a car that comes, the effort of a bay is 3 * level + column + depth.");
        // two bays, and which of them is chosen
        int[][] pairs = {
            {20, 6, 6}, // 3 and 3
            {8, 20, 20}, // 4 and 3
            {6, 5, 5}, // 3 and 3
            {3, 4, 3}, // 2 and 2
            {2, 1, 1}, // 1 and 1
            {24, 9, 9}, // 5 and 5
            {9, 22, 22}, // 5 and 4
            {59, 48, 48}, // 11 and 10
            {40, 28, 40}, // 6 and 7
            {29, 40, 40}, // 8 and 6
            {26, 40, 26}, // 6 and 6
            {1, 0, 0}, // 1 and 0
            {10, 0, 0}, // 0 and 0
            {58, 39, 39}, // 10 and 8
            {39, 29, 29}, // 8 and 8
        };
        for (int[] pair : pairs) {
            Yard yard = new Yard();
            yard.open(pair[0], pair[1]);
            checks.due("choice of " + pair[0] + " and " + pair[1], yard.robot.choice(0, 0), pair[2]);
            checks.due("store, of " + pair[0] + " and " + pair[1], yard.robot.store(0, 0), pair[2]);
        }
    }

    private void effortsToMove() {
        says("For a car that is moved from another bay, it is the difference of the columns plus the depth of the",
            "candidate, if both bays are on the same level, and otherwise 20 plus 3 times the difference of the",
            "levels plus the columns of both bays plus the depth of the candidate.");
        // from where, two bays, and which of them is chosen
        int[][] moves = {
            {24, 20, 28, 20}, // 2 and 2
            {24, 26, 37, 26}, // 1 and 2
            {24, 23, 28, 23}, // 2 and 2
            {20, 0, 39, 39}, // 23 and 5
            {28, 40, 21, 21}, // 27 and 5
            {40, 0, 20, 20}, // 26 and 23
            {0, 20, 40, 20}, // 23 and 26
            {48, 28, 36, 36}, // 31 and 30
            {48, 28, 2, 2}, // 31 and 31
            {0, 40, 26, 26}, // 26 and 26
            {20, 1, 2, 1}, // 24 and 24
            {20, 1, 10, 10}, // 24 and 23
            {20, 5, 6, 5}, // 26 and 26
            {29, 24, 27, 24}, // 2 and 2, from a back bay
            {29, 25, 22, 22}, // 3 and 3
            {9, 43, 24, 24}, // 20 + 6 + 4 + 1 + 1 and 20 + 3 + 4 + 2
            {59, 0, 20, 20}, // 30 and 27
        };
        for (int[] move : moves) {
            Yard yard = new Yard();
            yard.put(move[0], 0, 0);
            yard.open(move[1], move[2]);
            checks.due("from " + move[0] + " to " + move[1] + " or " + move[2], yard.robot.refuge(0), move[3]);
        }
    }

    // ---- Machines

    private void liftAtFirst() {
        says("The lift is on a level, at first 0, and is free from a time on, at first 0.");
        Yard yard = new Yard();
        checks.machine(yard.robot, 3, 0, 0, 0);
        yard.put(40, 0, 0);
        checks.job(yard.robot, 0, 0, -1, 40, 0, 12);
        checks.machine(yard.robot, 3, 2, 10, 10);
    }

    private void shuttlesAtFirst() {
        says("The shuttle of each level is at a column, at first 0, and is free from a time on, at first 0.");
        Yard yard = new Yard();
        for (int level = 0; level < 3; level++) {
            checks.machine(yard.robot, level, 0, 0, 0);
        }
        yard.put(28, 0, 0);
        checks.machine(yard.robot, 0, 0, 0, 0);
        checks.machine(yard.robot, 1, 4, 13, 13);
        checks.machine(yard.robot, 2, 0, 0, 0);
    }

    private void readiness() {
        says("A machine is ready at the present time, or at the time from which it is free, if that is later.");
        // after the first car the lift is free from 4 on, the shuttle from 6 on
        int[] present = {3, 4, 5, 6, 7};
        int[][] times = {{4, 10}, {4, 10}, {5, 11}, {6, 12}, {7, 13}};
        int[][] lift = {{0, 8, 8}, {0, 8, 8}, {0, 9, 8}, {0, 10, 8}, {0, 11, 8}};
        int[][] shuttle = {{0, 10, 10}, {0, 10, 10}, {0, 11, 11}, {0, 12, 12}, {0, 13, 12}};
        for (int i = 0; i < present.length; i++) {
            Yard yard = new Yard();
            yard.put(0, 0, 0);
            yard.robot.pass(present[i]);
            yard.put(10, 0, 0);
            checks.job(yard.robot, 1, 1, -1, 10, times[i][0], times[i][1]);
            checks.machine(yard.robot, 3, lift[i]);
            checks.machine(yard.robot, 0, shuttle[i]);
        }
    }

    private void paces() {
        says("The lift needs 3 minutes from one level to the next, a shuttle 1 minute from one column to the next.");
        int[] bays = {0, 2, 8, 20, 40, 48};
        int[] ends = {6, 7, 10, 9, 12, 16};
        for (int i = 0; i < bays.length; i++) {
            Yard yard = new Yard();
            yard.put(bays[i], 0, 0);
            checks.due("the end of a job to " + bays[i], yard.robot.job(0, 4), ends[i]);
        }
        Yard down = new Yard();
        down.put(40, 0, 0);
        down.robot.pass(100);
        down.put(0, 0, 0);
        // down until 106, in until 108, handover until 110
        checks.due("the lift goes down two levels", down.robot.job(1, 4), 112);
        Yard back = new Yard();
        back.put(8, 0, 0);
        back.robot.pass(100);
        back.put(2, 0, 0);
        // back until 104, handover until 106, to the column 1 until 107
        checks.due("the shuttle goes back four columns", back.robot.job(1, 4), 109);
    }

    private void workAtBays() {
        says("To take a car out of a bay, or to put it into one, a shuttle needs 2 minutes plus the depth of the",
            "bay.");
        int[] bays = {0, 1};
        int[] in = {6, 7};
        int[] out = {106, 107};
        for (int i = 0; i < bays.length; i++) {
            Yard yard = new Yard();
            yard.put(bays[i], 0, 0);
            checks.due("put into " + bays[i], yard.robot.job(0, 4), in[i]);
            yard.robot.pass(100);
            yard.robot.retrieve(0);
            checks.due("taken out of " + bays[i], yard.robot.job(1, 4), out[i]);
        }
    }

    private void handovers() {
        says("A handover between lift and shuttle takes 2 minutes of both, and happens at column 0; it begins when",
            "both are there.");
        Yard liftLater = new Yard();
        liftLater.put(0, 0, 0);
        checks.machine(liftLater.robot, 3, 0, 4, 4);
        checks.machine(liftLater.robot, 0, 0, 6, 6);
        liftLater.put(10, 0, 0);
        // both are there at 6
        checks.machine(liftLater.robot, 3, 0, 8, 8);
        checks.machine(liftLater.robot, 0, 0, 10, 10);
        Yard shuttleLater = new Yard();
        shuttleLater.put(8, 0, 0);
        checks.machine(shuttleLater.robot, 0, 4, 10, 10);
        shuttleLater.put(0, 0, 0);
        // the lift is there at 6, the shuttle at 14
        checks.machine(shuttleLater.robot, 3, 0, 16, 16);
        checks.machine(shuttleLater.robot, 0, 0, 18, 18);
    }

    private void gate() {
        says("The gate is on level 0; to take a car in or out there, the lift needs 2 minutes.");
        Yard yard = new Yard();
        yard.put(40, 0, 0);
        checks.machine(yard.robot, 3, 2, 10, 10);
        yard.robot.pass(100);
        yard.robot.retrieve(0);
        // taken out at 102, handed over at 104, down at 110
        checks.machine(yard.robot, 3, 0, 112, 22);
        yard.put(0, 0, 0);
        checks.machine(yard.robot, 3, 0, 116, 26);
    }

    // ---- Jobs

    private void jobsOneAfterTheOther() {
        says("A job brings a car from one place to another one; jobs are made one after the other.");
        Yard yard = Yard.pair(10, 5);
        yard.open(13);
        ParkingRobot x = yard.robot;
        x.retrieve(0);
        int[][] places = {{0, -1, 1}, {1, -1, 0}, {1, 0, 13}, {0, 1, -1}};
        checks.due("jobs()", x.jobs(), 4);
        for (int i = 0; i < places.length; i++) {
            for (int what = 0; what < 3; what++) {
                checks.due("job(" + i + ", " + what + ")", x.job(i, what), places[i][what]);
            }
        }
    }

    private void machinesDoNotWait() {
        says("A machine begins to move for a job when it is ready, without waiting for other machines, and is free",
            "when its part of the job has ended, where it is then; in a job, a machine does its parts one after the",
            "other.");
        Yard yard = new Yard();
        yard.put(48, 0, 0);
        // the lift: in until 2, up until 8, handover until 10; the shuttle: column 4 at 14, put in at 16
        checks.machine(yard.robot, 3, 2, 10, 10);
        checks.machine(yard.robot, 2, 4, 16, 16);
        yard.put(0, 0, 0);
        // the shuttle of level 0 is at its place from 0 on; the lift: down 16, in 18, handover 20
        checks.job(yard.robot, 1, 1, -1, 0, 0, 22);
        checks.machine(yard.robot, 3, 0, 20, 20);
        checks.machine(yard.robot, 0, 0, 22, 22);
        yard.robot.retrieve(0);
        // the shuttle: out 18, column 0 at 22; the lift: up 26, handover 28, down 34, out 36
        checks.job(yard.robot, 2, 0, 48, -1, 16, 36);
        checks.machine(yard.robot, 2, 0, 28, 28);
        checks.machine(yard.robot, 3, 0, 36, 36);
    }

    private void storing() {
        says("To store a car: the lift goes to level 0, takes the car in, and goes to the level of the bay; the",
            "shuttle of this level goes to column 0; handover; the shuttle goes to the column of the bay and puts",
            "the car in.");
        Yard yard = new Yard();
        yard.put(28, 0, 0);
        yard.robot.pass(100);
        yard.put(23, 0, 0);
        // the lift: down 103, in 105, up 108; the shuttle: column 0 at 104; handover 110, column 1 at 111, in 114
        checks.job(yard.robot, 1, 1, -1, 23, 100, 114);
        checks.machine(yard.robot, 3, 1, 110, 7 + 10);
        checks.machine(yard.robot, 1, 1, 114, 13 + 14);
        checks.machine(yard.robot, 0, 0, 0, 0);
        checks.machine(yard.robot, 2, 0, 0, 0);
    }

    private void retrieving() {
        says("To retrieve a car: the shuttle goes to the column of the bay, takes the car out, and goes to column",
            "0; the lift goes to this level; handover; the lift goes to level 0 and takes the car out.");
        Yard yard = new Yard();
        yard.put(28, 0, 0);
        yard.put(20, 0, 0);
        // the lift: 7, down 10, in 12, up 15, handover 19; the shuttle: 13, column 0 at 17, in 21
        yard.put(40, 0, 0);
        // the lift: 19, down 22, in 24, up 30, handover 32
        checks.machine(yard.robot, 3, 2, 32, 32);
        yard.robot.pass(100);
        yard.robot.retrieve(0);
        // the shuttle: column 4 at 104, out 106, column 0 at 110; the lift: level 1 at 103; handover 112, down 115
        checks.job(yard.robot, 3, 0, 28, -1, 100, 117);
        checks.machine(yard.robot, 3, 0, 117, 32 + 17);
        checks.machine(yard.robot, 1, 0, 112, 21 + 12);
        checks.machine(yard.robot, 2, 0, 34, 34);
    }

    private void movingOnALevel() {
        says("To move a car on its level: the shuttle goes to the column of its bay, takes it out, goes to the",
            "column of the other bay, and puts it in.");
        Yard yard = new Yard();
        yard.put(9, 0, 10);
        yard.put(8, 0, 20);
        yard.put(0, 0, 30);
        yard.robot.pass(100);
        yard.open(13);
        checks.due("tidy()", yard.robot.tidy(), 1);
        // the shuttle: from column 0 to 4 at 104, out 106, column 1 at 109, in 112
        checks.job(yard.robot, 3, 1, 8, 13, 100, 112);
        checks.due("where the shuttle is", yard.robot.machine(0, 0), 1);
        checks.due("machine(0, 1)", yard.robot.machine(0, 1), 112);
        checks.due("the lift has no part", yard.robot.machine(3, 1) < 100, true);
        yard.open(2);
        yard.robot.book(0, 0);
        checks.due("the other side, and no way", yard.robot.refuge(1), 2);
    }

    private void movingToAnotherLevel() {
        says("To move it to another level: its shuttle goes to the column of its bay, takes it out, and goes to",
            "column 0; the lift goes to this level; handover; the lift goes to the other level, and the shuttle",
            "there to column 0; handover; that shuttle goes to the column of the bay and puts the car in.");
        Yard yard = new Yard();
        yard.put(59, 0, 10);
        yard.put(58, 0, 5);
        // the lift: 10, down 16, in 18, up 24, handover 26; the shuttle: 17, column 0 at 21, column 4 at 30, in 32
        checks.machine(yard.robot, 3, 2, 26, 26);
        checks.machine(yard.robot, 2, 4, 32, 32);
        yard.robot.pass(100);
        yard.open(22);
        yard.robot.retrieve(0);
        // out 102, column 0 at 106; handover 108; the lift: down 111, handover 113; column 1 at 114, in 116
        checks.job(yard.robot, 2, 1, 58, 22, 100, 116);
        checks.machine(yard.robot, 1, 1, 116, 16);
        // the shuttle: 108, column 4 at 112, out 115, column 0 at 119; the lift: 113, up 116; handover 121, down 127
        checks.job(yard.robot, 3, 0, 59, -1, 108, 129);
        checks.machine(yard.robot, 2, 0, 121, 32 + 8 + 13);
        checks.machine(yard.robot, 3, 0, 129, 26 + 13 + 16);

        Yard taker = new Yard();
        taker.put(48, 0, 0);
        taker.put(1, 0, 10);
        taker.put(0, 0, 5);
        taker.robot.pass(100);
        taker.open(43);
        taker.robot.retrieve(1);
        // out 102, handover 104; the lift: up 110; the shuttle from column 4 to 0 at 104; handover 112; in 116
        checks.job(taker.robot, 3, 2, 0, 43, 100, 116);
        Yard giver = new Yard();
        giver.put(9, 0, 10);
        giver.put(8, 0, 5);
        giver.put(0, 0, 0);
        giver.put(40, 0, 0);
        giver.robot.pass(100);
        giver.open(22);
        giver.robot.retrieve(0);
        // column 4 at 104, out 106, column 0 at 110, handover 112; the lift: up 115, handover 117; in 120
        checks.job(giver.robot, 4, 1, 8, 22, 100, 120);
        Yard lift = Yard.pair(10, 5);
        lift.put(40, 0, 0);
        lift.robot.pass(100);
        lift.open(22);
        lift.robot.retrieve(0);
        // out 102; the lift: down 106, handover 108, up 111, handover 113; column 1 at 114, in 116
        checks.job(lift.robot, 3, 1, 0, 22, 100, 116);
    }

    private void beginningAndEndOfJobs() {
        says("A job begins when the first of its machines begins to move or to work, and ends when the last one has",
            "done its part; a machine that is already there begins its part when it is ready.");
        Yard yard = new Yard();
        yard.put(40, 0, 0);
        yard.put(0, 0, 0);
        // the shuttle waits from 0 on; the lift: 10, down 16, in 18, handover 20
        checks.job(yard.robot, 1, 1, -1, 0, 0, 22);
        yard.robot.retrieve(0);
        // the shuttle of level 2: 12; the lift: 20, up 26, handover 28, down 34
        checks.job(yard.robot, 2, 0, 40, -1, 12, 36);
        yard.robot.retrieve(1);
        // the shuttle of level 0: 22, out 24; the lift: 36, handover 38
        checks.job(yard.robot, 3, 1, 0, -1, 22, 40);
        yard.put(8, 0, 0);
        // the lift: 40, in 42; the shuttle: 38; handover 44, column 4 at 48
        checks.job(yard.robot, 4, 2, -1, 8, 38, 50);
        yard.put(10, 0, 0);
        // the lift begins first: 44, in 46; the shuttle: 50, column 0 at 54; handover 56
        checks.job(yard.robot, 5, 3, -1, 10, 44, 58);
    }

    private void lastTwentyJobs() {
        says("The last 20 jobs are kept, numbered from 0, the oldest one first.");
        ParkingRobot x = new ParkingRobot();
        for (int job = 0; job < 80; job++) {
            if (job % 2 == 0) {
                x.store(1, 0);
            } else {
                x.retrieve(job / 2);
            }
            int kept = Math.min(job + 1, 20);
            checks.due("jobs() of " + (job + 1), x.jobs(), kept);
            checks.due("the car of the last of " + (job + 1), x.job(kept - 1, 0), job / 2);
            checks.due("the car of the first of " + (job + 1), x.job(0, 0), (job + 1 - kept) / 2);
            checks.due("is the first one a retrieval", x.job(0, 2) == -1, (job + 1 - kept) % 2 == 1);
        }
        checks.refused("job(20, 0)", INDEX, () -> x.job(20, 0));
        checks.refused("job(-1, 0)", INDEX, () -> x.job(-1, 0));
        x.undo();
        checks.due("the oldest one is back", x.job(0, 0), 29);
    }

    // ---- Retrieving

    private void blocking() {
        says("If a car is in a back bay and there is a car in the front bay before it, this one is blocking: a bay",
            "is chosen for it, where the front bay itself is no candidate, and it is moved there by a job.");
        checks.due("a car in a front bay", Yard.pair(10, 5).robot.retrieve(1), 1);
        Yard alone = new Yard();
        alone.put(1, 0, 10);
        checks.due("a car in a back bay with none before it", alone.robot.retrieve(0), 1);
        Yard beside = new Yard();
        beside.put(3, 0, 10);
        beside.put(4, 0, 10);
        checks.due("a car in the next front bay blocks none", beside.robot.retrieve(0), 1);
        Yard own = Yard.pair(10, 5);
        own.open(0);
        checks.refused("the front bay itself", UNSUPPORTED, () -> own.robot.retrieve(0));
        own.open(1);
        checks.refused("the back bay behind it", UNSUPPORTED, () -> own.robot.retrieve(0));
        own.open(0, 1, 59);
        checks.due("another one, however far", own.robot.retrieve(0), 2);
        checks.due("car(1, 2)", own.robot.car(1, 2), 59);

        Yard bad = new Yard();
        bad.put(3, 0, 5);
        bad.put(1, 0, 10);
        bad.put(0, 0, 20);
        bad.open(2);
        checks.due("a bad one is chosen if there is no other", bad.robot.retrieve(1), 2);
        checks.due("car(2, 2)", bad.robot.car(2, 2), 2);
    }

    private void retrievedAfterwards() {
        says("Then the car is retrieved by a job.");
        Yard yard = Yard.pair(10, 5);
        yard.open(13);
        yard.robot.retrieve(0);
        checks.job(yard.robot, 2, 1, 0, 13, 11, 17);
        // the shuttle: column 0 at 18, out 21; the lift is ready at 9
        checks.job(yard.robot, 3, 0, 1, -1, 9, 25);
    }

    private void refusedRetrieval() {
        says("If no bay can be chosen, the retrieval is refused.");
        Yard yard = new Yard();
        yard.put(1, 0, 10);
        yard.put(0, 1, 5);
        yard.open();
        checks.refused("all bays are closed", UNSUPPORTED, () -> yard.robot.retrieve(0));
        yard.open(2, 3, 12);
        checks.refused("narrow bays are open, the blocking car is large", UNSUPPORTED, () -> yard.robot.retrieve(0));
        checks.due("the blocking car itself can be retrieved", yard.robot.retrieve(1), 1);
        checks.due("then the other one, too", yard.robot.retrieve(0), 1);
    }

    // ---- Orders

    private void endOfAnOrder() {
        says("An order of a set of cars is carried out by retrieving them one after the other; its moves are all",
            "its jobs, and its end is the greatest end of them.");
        Yard yard = new Yard();
        yard.put(20, 0, 0);
        yard.put(1, 0, 10);
        yard.put(0, 0, 20);
        yard.put(3, 0, 11);
        yard.put(2, 0, 21);
        yard.robot.pass(100);
        yard.open(17, 19);
        checks.due("tidy()", yard.robot.tidy(), 2);
        // the shuttle of level 0: from 1 to 0 at 101, out 103, 3 at 106, in 109, 1 at 111, out 113, 4 at 116, in 119
        checks.due("account(5)", yard.robot.account(5), 119);
        // the lift: level 1 at 103; handover 105, down 108
        checks.due("an earlier job that ends later is none of the order", yard.robot.bestEnd(1), 110);
        checks.due("nor are its moves", yard.robot.bestMoves(1), 1);
        checks.due("retrieveAll(1)", yard.robot.retrieveAll(1), 110);
        checks.due("account(5)", yard.robot.account(5), 119);
    }

    /** The oldest one of the 20 jobs that are kept ends later than the order, which is the latest one. */
    private void endAmongTwentyJobs() {
        checks.part("the greatest end of its jobs, when 20 are kept");
        Yard yard = new Yard();
        for (int level = 0; level < 3; level++) {
            yard.put(20 * level + 1, 0, 90);
            yard.put(20 * level + (level == 0 ? 9 : 11), 0, 90);
            yard.put(20 * level, 0, 50);
        }
        yard.open(0, 8, 20, 30, 40, 50);
        ParkingRobot x = yard.robot;
        x.pass(200);
        // between the columns 0 and 4 of level 0 in 8 minutes, between the sides of a column in 4
        for (int move = 0; move < 8; move++) {
            checks.due("moved on level 0", tidiedAgain(x, move, 0), 1);
        }
        for (int move = 0; move < 9; move++) {
            checks.due("moved on the levels 1 and 2", tidiedAgain(x, move, 3, 6), 2);
        }
        checks.due("the last one on level 0", x.job(1, 4), 264);
        checks.due("the first one on level 1", x.job(2, 4), 204);
        // the shuttle: 236, out 238; handover 240, down 243
        checks.due("bestEnd", x.bestEnd(1L << 5), 245);
        checks.due("retrieveAll", x.retrieveAll(1L << 5), 245);
        checks.due("the oldest one that is kept", x.job(0, 4), 264);
        checks.due("account(5)", x.account(5), 264);
    }

    /** On each level, the first back car or the next one is booked so that the car before it moves to the other one. */
    private static int tidiedAgain(ParkingRobot x, int move, int... firstBackCars) {
        for (int car : firstBackCars) {
            x.book(car + move % 2, 10);
            x.book(car + 1 - move % 2, 90);
        }
        return x.tidy();
    }

    private void impossibleOrder() {
        says("It is impossible if a retrieval is refused.");
        ParkingRobot x = Yard.stuck();
        checks.refused("the first one", ELEMENT, () -> x.plainMoves(5));
        x.book(2, 0);
        checks.refused("the last one", ELEMENT, () -> x.plainMoves(5));
        checks.due("the cars 1 and 2", x.plainMoves(6), 2);
        checks.due("car 1 before car 0", x.plainMoves(3), 2);
        x.book(1, 11);
        checks.refused("car 0 before car 1", ELEMENT, () -> x.plainMoves(3));
        checks.due("another order is possible", x.bestMoves(3), 2);
        checks.refused("no order is possible", ELEMENT, () -> x.bestMoves(5));
        Yard large = new Yard();
        large.put(1, 0, 10);
        large.put(0, 1, 20);
        large.open(2, 3, 12, 13);
        checks.refused("a large blocking car and narrow bays", ELEMENT, () -> large.robot.bestMoves(1));
        checks.refused("as well in the plain order", ELEMENT, () -> large.robot.plainMoves(3));
        checks.due("the blocking one first", large.robot.bestMoves(3), 2);
    }

    private void bestOrder() {
        says("The best order has the fewest moves, of several the least end, of several of these it is the one that",
            "is lexicographically least by the numbers of its cars.");
        Yard fewest = new Yard();
        fewest.put(7, 0, 0);
        fewest.put(6, 0, 0);
        fewest.put(46, 0, 0);
        fewest.robot.pass(100);
        fewest.open(0);
        // 2, 1, 0: out at 115, 119, 130, with 3 moves, as 1, 2, 0: out at 110, 126, 130; 2, 0, 1: out at 115, 120, 124
        order(fewest.robot, 3, 130, 1, 2, 0);

        Yard least = new Yard();
        least.put(10, 0, 1);
        least.put(48, 0, 2);
        least.robot.pass(100);
        // the lift is on level 2: 1, 0: out at 116, 120; 0, 1: out at 110, 126
        order(least.robot, 2, 120, 1, 0);

        Yard lexical = Yard.pair(10, 5);
        lexical.put(10, 0, 0);
        lexical.robot.pass(100);
        // 1, 0, 2: out at 106, 111, 115; 1, 2, 0: at 106, 110, 115; 2, 1, 0: at 106, 110, 115
        order(lexical.robot, 3, 115, 1, 0, 2);
    }

    private void order(ParkingRobot x, int moves, int end, int... cars) {
        long set = (1L << cars.length) - 1;
        checks.due("bestMoves", x.bestMoves(set), moves);
        checks.due("bestEnd", x.bestEnd(set), end);
        for (int i = 0; i < cars.length; i++) {
            checks.due("bestCar at " + i, x.bestCar(set, i), cars[i]);
        }
        checks.due("retrieveAll", x.retrieveAll(set), end);
        for (int i = 0; i < cars.length; i++) {
            checks.due("the last job but " + i, x.job(x.jobs() - 1 - i, 0), cars[cars.length - 1 - i]);
        }
    }

    private void plainOrder() {
        says("The plain order is that by pickups, and for the same pickup by numbers.");
        int[][] pickups = {{7, 7}, {7, 8}, {8, 7}, {0, 9999}, {9999, 0}};
        int[] moves = {3, 3, 2, 3, 2};
        for (int i = 0; i < pickups.length; i++) {
            Yard yard = Yard.pair(pickups[i][0], pickups[i][1]);
            yard.open(13);
            checks.due("with " + pickups[i][0] + " and " + pickups[i][1], yard.robot.plainMoves(3), moves[i]);
        }
    }

    // ---- Tidying

    private void tidiedBays() {
        says("All back bays with a car whose pickup is earlier than that of the car in the front bay before it are",
            "gone through, in ascending order of the pickups of the cars in the back bays, for the same pickup by",
            "their numbers, as they are at the beginning.");
        int[] front = {9, 10, 11};
        int[] moved = {0, 0, 1};
        for (int i = 0; i < front.length; i++) {
            Yard yard = Yard.pair(10, front[i]);
            yard.open(13);
            checks.due("10 behind " + front[i], yard.robot.tidy(), moved[i]);
        }
        checks.due("10 and 9: the first one", movedFirst(10, 9), 3);
        checks.due("9 and 10: the first one", movedFirst(9, 10), 2);
        checks.due("9 and 9: the first one", movedFirst(9, 9), 2);
        checks.due("0 and 9999: the first one", movedFirst(0, 9998), 2);
        checks.due("a new object", new ParkingRobot().tidy(), 0);
        Yard once = new Yard();
        once.put(1, 0, 5);
        once.put(0, 1, 10);
        once.put(5, 0, 20);
        once.put(4, 0, 30);
        once.open(2, 4);
        checks.due("at its turn car 1, which is large, finds no bay", once.robot.tidy(), 1);
        checks.due("car 3 leaves one", once.robot.car(3, 2), 2);
        checks.due("each is gone through once", once.robot.car(1, 2), 0);
        checks.due("the next time", once.robot.tidy(), 1);
        checks.due("it is moved there", once.robot.car(1, 2), 4);
    }

    /** The car that is moved first: car 2 is before car 0, in the bay 20, car 3 before car 1, in the bay 0. */
    private static int movedFirst(int first, int second) {
        Yard yard = new Yard();
        yard.put(21, 0, first);
        yard.put(1, 0, second);
        yard.put(20, 0, 9999);
        yard.put(0, 0, 9999);
        yard.open(13, 33);
        yard.robot.tidy();
        return yard.robot.job(4, 0);
    }

    private void tidiedIfNotBad() {
        says("For each of them, if it is still so, a bay is chosen for the front car, as when it is blocking; if",
            "there is one and it is not bad, the car is moved there by a job.");
        Yard yard = new Yard();
        yard.put(3, 0, 20);
        yard.put(1, 0, 10);
        yard.put(0, 1, 21);
        yard.open();
        ParkingRobot x = yard.robot;
        checks.due("there is none", x.tidy(), 0);
        yard.open(0, 1);
        checks.due("its own column is none", x.tidy(), 0);
        yard.open(2, 3, 12, 13);
        checks.due("a narrow one is none for a large car", x.tidy(), 0);
        yard.put(5, 0, 20);
        yard.open(4);
        checks.due("a bad one", x.tidy(), 0);
        x.book(2, 20);
        checks.due("no more bad", x.tidy(), 1);
        checks.due("car(2, 2)", x.car(2, 2), 4);
        checks.due("account(3)", x.account(3), 1);
        checks.due("car(2, 4)", x.car(2, 4), 2);
        checks.due("the job's car", x.job(x.jobs() - 1, 0), 2);
    }

    // ---- Reports

    private void reportStays() {
        says("A retrieval that is refused leaves a report, which replaces the earlier one and stays until the next",
            "one.");
        Yard yard = Yard.pair(10, 5);
        yard.put(3, 0, 10);
        yard.put(2, 0, 5);
        yard.open();
        ParkingRobot x = yard.robot;
        checks.refused("none at first", ELEMENT, () -> x.report(0, 0));
        checks.refused("retrieve(0)", UNSUPPORTED, () -> x.retrieve(0));
        checks.reported(x, 0, 1, 0);
        checks.refused("retrieve(2)", UNSUPPORTED, () -> x.retrieve(2));
        checks.reported(x, 2, 3, 0);
        checks.refused("a car that is not there leaves none", INDEX, () -> x.retrieve(4));
        checks.due("a retrieval that is not refused leaves none", x.retrieve(3), 1);
        checks.due("the refused car is retrieved", x.retrieve(2), 1);
        x.save();
        x.restore();
        x.tidy();
        x.pass(1);
        checks.reported(x, 2, 3, 0);
        checks.refused("retrieve(0)", UNSUPPORTED, () -> x.retrieve(0));
        checks.reported(x, 0, 1, 0);
    }

    private void reportLevels() {
        says("It has three levels, numbered from 0, each of which is caused by the next one, with a code and a",
            "detail: 1 and the car; 2 and the blocking car; 3 and the number of open bays without a car.");
        ParkingRobot x = Yard.stuck();
        checks.reported(x, 0, 1, 0);
        checks.refused("level 3", ELEMENT, () -> x.report(3, 0));
        checks.refused("level -1", ELEMENT, () -> x.report(-1, 0));
    }

    private void noReportOfOrders() {
        says("For orders that are asked for, no report is left.");
        Yard yard = Yard.pair(10, 5);
        yard.open();
        ParkingRobot x = yard.robot;
        checks.refused("bestMoves(1)", ELEMENT, () -> x.bestMoves(1));
        checks.refused("bestEnd(1)", ELEMENT, () -> x.bestEnd(1));
        checks.refused("bestCar(1, 0)", ELEMENT, () -> x.bestCar(1, 0));
        checks.refused("plainMoves(1)", ELEMENT, () -> x.plainMoves(1));
        checks.refused("retrieveAll(1)", ELEMENT, () -> x.retrieveAll(1));
        checks.due("one order of two is refused", x.bestMoves(3), 2);
        checks.due("tidy()", x.tidy(), 0);
        checks.refused("refuge(1)", ELEMENT, () -> x.refuge(1));
        checks.refused("no report", ELEMENT, () -> x.report(0, 0));
        checks.due("retrieveAll(3)", x.retrieveAll(3), x.account(5));
        checks.refused("no report", ELEMENT, () -> x.report(0, 0));
    }

    // ---- Commands

    private void commands() {
        says("A text of commands consists of one or more commands, each followed by a semicolon: s, a digit 0 or 1,",
            "a comma and a number stores a car of this size with this pickup; r and a number retrieves a car; t and",
            "a number lets so many minutes pass; c and a number closes a bay, o and a number opens one.");
        ParkingRobot x = new ParkingRobot();
        checks.performed(x, "", -100);
        checks.performed(x, "s1,7;", 1);
        checks.due("its size", x.car(0, 0), 1);
        checks.due("its pickup", x.car(0, 1), 7);
        checks.performed(x, "s0,8;", 1);
        checks.due("its size", x.car(1, 0), 0);
        checks.due("its pickup", x.car(1, 1), 8);
        checks.performed(x, "r0;", 1);
        checks.due("due(9999)", x.due(9999), 2L);
        checks.performed(x, "t999;t1;", 2);
        checks.due("account(0)", x.account(0), 1000);
        checks.performed(x, "c59;c59;", 2);
        checks.due("bays(3)", x.bays(3), 1);
        checks.performed(x, "o59;o0;", 2);
        checks.due("bays(3)", x.bays(3), 0);
        checks.performed(x, "c0;".repeat(20), 20);
        checks.due("bays(3)", x.bays(3), 1);
        checks.performed(x, "r1", -102);
        checks.performed(x, "r1;r1", -105);
        checks.performed(x, "r1;;", -103);
        checks.performed(x, "s2,7;", -101);
        checks.performed(x, "s/,7;", -101);
        checks.performed(x, "s17;", -102);
        checks.performed(x, "s1;7;", -102);
        checks.due("the car is still there", x.car(1, 0), 0);
    }

    private void numbersInCommands() {
        says("A number consists of one to four digits, of which the first ones can be 0.");
        ParkingRobot x = new ParkingRobot();
        String[] numbers = {"0", "9", "00", "10", "099", "0000", "0007", "9999"};
        int[] pickups = {0, 9, 0, 10, 99, 0, 7, 9999};
        for (int i = 0; i < numbers.length; i++) {
            checks.performed(x, "s0," + numbers[i] + ";", 1);
            checks.due("the pickup " + numbers[i], x.car(i, 1), pickups[i]);
        }
        checks.performed(x, "s0,;", -103);
        checks.performed(x, "s0,00000;", -107);
        checks.performed(x, "s0,99990;", -107);
        checks.performed(x, "t;", -101);
        checks.performed(x, "t00001;", -105);
        checks.performed(x, "t/;", -101);
        checks.performed(x, "t:;", -101);
        checks.performed(x, "t1/;", -102);
        checks.performed(x, "t1:;", -102);
        checks.performed(x, "t-1;", -101);
        checks.performed(x, "t+1;", -101);
        checks.due("account(0)", x.account(0), 0);
        checks.performed(x, "t0001;c0000;o0059;r0007;", 4);
        checks.due("account(0)", x.account(0), 1);
        checks.due("bay(0, 5)", x.bay(0, 5), 1);
        checks.refused("car(7, 0)", INDEX, () -> x.car(7, 0));
    }

    private void errorPositions() {
        says("The error position of a text is the offset, from 0, of the first character that cannot continue such",
            "a text, or the length of the text if it ends too early.");
        // with each of these, the text is wrong at its last character, and without it too short
        String[] texts = {"x", ";", "0", "S", "s2", "sx", "s;", "s00", "s0;", "s0,;", "s0,x", "s0,-", "s0,1,", "s0,1x",
            "s0,12345", "s1,1234s", "rx", "r;", "r-", "r1r", "r12345", "t;", "t1,", "c;", "c1c", "o;", "o1o", "t 1"};
        for (String text : texts) {
            int last = text.equals("t 1") ? 1 : text.length() - 1;
            ParkingRobot x = new ParkingRobot();
            checks.performed(x, text, -100 - last);
            checks.performed(x, "t5;" + text, -103 - last);
            checks.performed(x, text + ";t5;", -100 - last);
            checks.performed(x, text.substring(0, last), -100 - last);
            checks.due("nothing was carried out", x.account(0), 0);
        }
        ParkingRobot x = new ParkingRobot();
        for (String letter : new String[] {"x", ";", ",", "0", " ", "S"}) {
            checks.performed(x, "t5;" + letter, -103);
        }
        checks.performed(x, "t1;".repeat(19) + "t1", -159);
        checks.performed(x, "t1;".repeat(19) + "t12", -160);
        checks.performed(x, "t1;".repeat(19) + "t1x", -159);
        checks.performed(x, "t12;".repeat(14) + "t123", -160);
        checks.performed(x, "x".repeat(60), -100);
        checks.due("nothing was carried out", x.account(0), 0);
    }

    // ---- Details

    private void backBayWhileMoved() {
        says("While a car is moved from a front bay, the back bay behind it cannot be reached.");
        Yard yard = new Yard();
        yard.put(0, 0, 5);
        yard.open(1);
        checks.refused("the back bay behind it", ELEMENT, () -> yard.robot.refuge(0));
        yard.open(1, 59);
        checks.due("another one, however far", yard.robot.refuge(0), 59);
    }

    private void sides() {
        says("Sides do not matter for efforts.");
        Yard yard = new Yard();
        yard.put(4, 0, 5);
        yard.open(2, 14);
        checks.due("moved to the other side", yard.robot.refuge(0), 14);
        yard.open(2, 12);
        checks.due("the same effort on both sides", yard.robot.refuge(0), 2);
        yard.open(2, 10);
        checks.due("a car that comes", yard.robot.choice(0, 5), 10);
        yard.open(20, 30);
        checks.due("from another level, both sides alike", yard.robot.refuge(0), 20);
        yard.open(22, 30);
        checks.due("from another level, the other side", yard.robot.refuge(0), 30);
    }

    private void readyMachinesBegin() {
        says("All machines of a job begin their parts when they are ready, also the second shuttle of a move to",
            "another level, and one that is at its place already and waits there; the lift can begin for the",
            "retrieval of a blocked car while the blocking one is still moved.");
        Yard second = Yard.pair(10, 5);
        second.open(43);
        second.robot.retrieve(0);
        // the shuttle of level 2 is ready at 0, the lift at 9, the shuttle of level 0 at 11
        checks.job(second.robot, 2, 1, 0, 43, 0, 27);
        checks.machine(second.robot, 2, 1, 27, 27);
        Yard still = Yard.pair(10, 5);
        still.open(13);
        still.robot.retrieve(0);
        checks.due("the move ends", still.robot.job(2, 4), 17);
        checks.due("the retrieval begins", still.robot.job(3, 3), 9);
        checks.machine(still.robot, 3, 0, 25, 25);
    }

    private void presentTimeStays() {
        says("Jobs do not let the present time pass.");
        Yard yard = Yard.pair(10, 20);
        yard.open(13, 15);
        ParkingRobot x = yard.robot;
        checks.due("after two cars came", x.account(0), 0);
        x.tidy();
        checks.due("after one was moved", x.account(0), 0);
        x.retrieve(0);
        checks.due("after one was retrieved", x.account(0), 0);
        x.retrieveAll(2);
        checks.due("after a set was retrieved", x.account(0), 0);
        checks.due("pass(1)", x.pass(1), 1);
    }

    private void otherFrontCar() {
        says("In tidying, a back car can have another front car by then.");
        Yard yard = new Yard();
        yard.put(1, 0, 9);
        yard.put(0, 0, 50);
        yard.put(3, 0, 10);
        yard.put(2, 0, 60);
        yard.open(0, 13);
        // the front bay 0 is left by car 1, but would be bad for car 3
        checks.due("tidy()", yard.robot.tidy(), 1);
        checks.due("car(1, 2)", yard.robot.car(1, 2), 13);
        checks.due("car(3, 2)", yard.robot.car(3, 2), 2);
        yard.robot.book(0, 60);
        checks.due("no more bad", yard.robot.tidy(), 1);
        checks.due("another car is before car 0", yard.robot.car(0, 3), 3);
    }

    private void countInReports() {
        says("Open bays without a car are counted in a report whether they can be reached or are wide or not, as",
            "they are when the retrieval is refused.");
        Yard yard = new Yard();
        yard.put(1, 0, 10);
        yard.put(0, 1, 5);
        yard.put(14, 0, 5);
        yard.open(0, 1, 2, 3, 14, 15);
        ParkingRobot x = yard.robot;
        checks.refused("2 and 3 are narrow, 15 is behind a car", UNSUPPORTED, () -> x.retrieve(0));
        checks.reported(x, 0, 1, 3);
        checks.notPerformed(x, "c3;c15;r0;");
        checks.reported(x, 0, 1, 1);
        checks.due("now they are open again", x.bays(1), 3);
        checks.notPerformed(x, "r2;c14;c15;r0;");
        checks.reported(x, 0, 1, 2);
        x.setClosed(2, true);
        x.setClosed(3, true);
        x.setClosed(15, true);
        checks.reported(x, 0, 1, 2);
        checks.refused("none is left", UNSUPPORTED, () -> x.retrieve(0));
        checks.reported(x, 0, 1, 0);
    }

    private void movesOfAnOrder() {
        says("The moves of an order are the retrievals and the cars that are moved.");
        Yard yard = new Yard();
        for (int i = 0; i < 5; i++) {
            yard.put(4 * i + 1, 0, 10);
            yard.put(4 * i, 0, 20);
        }
        yard.open(20, 22, 24, 26, 28);
        long backCars = 1L | 1L << 2 | 1L << 4 | 1L << 6 | 1L << 8;
        checks.due("five cars, each of them blocked", yard.robot.bestMoves(backCars), 10);
        checks.due("in the plain order, too", yard.robot.plainMoves(backCars), 10);
        checks.due("five cars, none of them blocked", yard.robot.bestMoves(backCars << 1), 5);
        checks.due("the least set", yard.robot.bestMoves(2), 1);
        int jobs = yard.robot.jobs();
        yard.robot.retrieveAll(backCars);
        checks.due("jobs()", yard.robot.jobs(), jobs + 10);
    }

    private void numbersOfCars() {
        says("A car that finds no bay gets no number; taking back a change brings numbers back.");
        Yard yard = new Yard();
        yard.open();
        ParkingRobot x = yard.robot;
        checks.refused("no bay", UNSUPPORTED, () -> x.store(0, 5));
        checks.due("account(1)", x.account(1), 0);
        yard.open(0);
        x.store(1, 5);
        checks.due("its number", x.bay(0, 6), 0);
        x.undo();
        x.store(0, 6);
        checks.due("its number", x.bay(0, 6), 0);
        checks.due("its pickup", x.car(0, 1), 6);
        x.retrieve(0);
        x.store(0, 7);
        checks.due("a retrieval brings none back", x.bay(0, 6), 1);
        ParkingRobot full = Yard.after(40);
        checks.refused("the 41st car", STATE, () -> full.store(0, 0));
        full.undo();
        checks.refused("the 41st car, as the retrieval alone was taken back", STATE, () -> full.store(0, 0));
        full.undo();
        checks.due("the 40th car again", full.store(0, 0), 0);
        checks.due("its number", full.bay(0, 6), 39);
    }

    private void minutesOfMachines() {
        says("The minutes of machines are those of all jobs so far, kept or not.");
        ParkingRobot x = new ParkingRobot();
        for (int car = 0; car < 12; car++) {
            x.store(1, 0);
            x.retrieve(car);
        }
        // the lift works without a gap, 12 minutes a car; the shuttle is done 2 minutes before it
        checks.due("jobs()", x.jobs(), 20);
        checks.machine(x, 3, 0, 144, 144);
        checks.machine(x, 0, 0, 142, 142);
        x.pass(500);
        checks.machine(x, 3, 0, 144, 144);
        x.store(0, 0);
        checks.machine(x, 3, 0, 504, 148);
        checks.machine(x, 0, 0, 506, 148);
    }
}
