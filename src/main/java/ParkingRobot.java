import java.util.NoSuchElementException;

public final class ParkingRobot {
    private static final int NONE = -1;

    private static final int LEVELS = 3;
    private static final int COLUMNS = 5;
    private static final int BAYS_OF_COLUMN = 2;
    private static final int BAYS_OF_SIDE = COLUMNS * BAYS_OF_COLUMN;
    private static final int BAYS_OF_LEVEL = 2 * BAYS_OF_SIDE;
    private static final int BAYS = LEVELS * BAYS_OF_LEVEL;
    private static final int BACK = 1;

    private static final int EFFORT_OF_LEVEL = 3;
    private static final int EFFORT_OF_LIFT = 20;

    private static final int MOST_CARS = 40;
    private static final int LARGE = 1;
    private static final int LAST_TIME = 9999;
    private static final int LONGEST_PASS = 999;

    private static final int LIFT = 3;
    private static final int MACHINES = 4;

    private static final int MOST_ORDERED = 5;
    private static final int MOST_CHANGES = 6;
    private static final int REPORT_LEVELS = 3;

    private final Garage garage = new Garage();
    private final Garage saved = new Garage();
    private boolean isSaved;
    private final History history = new History();
    private final Orders orders = new Orders();
    private final CommandText text = new CommandText();
    private final int[] reportDetails = new int[REPORT_LEVELS];
    private boolean hasReport;

    public ParkingRobot() {
    }

    // ---- cars

    public int store(int size, int pickup)
            throws IllegalArgumentException, IllegalStateException, UnsupportedOperationException {
        checkSizeAndPickup(size, pickup);
        if (garage.isFull()) {
            throw new IllegalStateException("there have been 40 cars");
        }
        history.draft(garage);
        int bay = garage.takeIn(size, pickup);
        if (bay == NONE) {
            throw new UnsupportedOperationException("no bay can be chosen");
        }
        history.keepDraft();
        return bay;
    }

    public int retrieve(int car) throws IndexOutOfBoundsException, UnsupportedOperationException {
        checkStored(car);
        history.draft(garage);
        int jobs = fetchOrReport(car);
        if (jobs == 0) {
            throw new UnsupportedOperationException("the blocking car finds no bay");
        }
        history.keepDraft();
        return jobs;
    }

    public int book(int car, int pickup) throws IndexOutOfBoundsException, IllegalArgumentException {
        checkStored(car);
        checkTime(pickup);
        history.draft(garage);
        int previous = garage.changePickup(car, pickup);
        history.keepDraft();
        return previous;
    }

    public int car(int car, int what) throws IndexOutOfBoundsException, IllegalArgumentException {
        checkStored(car);
        switch (what) {
            case 0:
                return garage.sizeOf(car);
            case 1:
                return garage.pickupOf(car);
            case 2:
                return garage.bayOf(car);
            case 3:
                return garage.blockerOf(car);
            case 4:
                return garage.jobsOf(car);
            default:
                throw new IllegalArgumentException("no such number about a car");
        }
    }

    public long due(int time) throws IllegalArgumentException {
        checkTime(time);
        return garage.storedUntil(time);
    }

    // ---- bays

    public boolean setClosed(int bay, boolean isClosed) throws IndexOutOfBoundsException {
        checkBay(bay);
        history.draft(garage);
        boolean wasClosed = garage.changeClosed(bay, isClosed);
        history.keepDraft();
        return wasClosed;
    }

    public int bay(int bay, int what) throws IndexOutOfBoundsException, IllegalArgumentException {
        checkBay(bay);
        switch (what) {
            case 0:
                return levelOf(bay);
            case 1:
                return sideOf(bay);
            case 2:
                return columnOf(bay);
            case 3:
                return depthOf(bay);
            case 4:
                return isWide(bay) ? 1 : 0;
            case 5:
                return garage.isClosed(bay) ? 1 : 0;
            case 6:
                return garage.carIn(bay);
            case 7:
                return garage.carBefore(bay) == NONE ? 1 : 0;
            default:
                throw new IllegalArgumentException("no such number about a bay");
        }
    }

    public int choice(int size, int pickup) throws IllegalArgumentException, NoSuchElementException {
        checkSizeAndPickup(size, pickup);
        int bay = garage.chooseBay(size, pickup, NONE);
        if (bay == NONE) {
            throw new NoSuchElementException("no bay can be chosen");
        }
        return bay;
    }

    public int refuge(int car) throws IndexOutOfBoundsException, NoSuchElementException {
        checkStored(car);
        int bay = garage.bayToFlee(car);
        if (bay == NONE) {
            throw new NoSuchElementException("no bay can be chosen");
        }
        return bay;
    }

    public int bays(int what) throws IllegalArgumentException {
        switch (what) {
            case 0:
                return garage.countStored();
            case 1:
                return garage.countOpenWithoutCar(false);
            case 2:
                return garage.countOpenWithoutCar(true);
            case 3:
                return garage.countClosed();
            case 4:
                return Long.bitCount(garage.blockedCars(false));
            case 5:
                return Long.bitCount(garage.blockedCars(true));
            default:
                throw new IllegalArgumentException("no such count of bays");
        }
    }

    // ---- orders

    public int bestMoves(long cars)
            throws IndexOutOfBoundsException, IllegalArgumentException, NoSuchElementException {
        checkSet(cars);
        checkPossible(orders.findBest(garage, cars));
        return orders.movesOfBest();
    }

    public int bestEnd(long cars)
            throws IndexOutOfBoundsException, IllegalArgumentException, NoSuchElementException {
        checkSet(cars);
        checkPossible(orders.findBest(garage, cars));
        return orders.endOfBest();
    }

    public int bestCar(long cars, int i)
            throws IndexOutOfBoundsException, IllegalArgumentException, NoSuchElementException {
        checkSet(cars);
        if (i < 0 || i >= Long.bitCount(cars)) {
            throw new IllegalArgumentException("no such place in the order");
        }
        checkPossible(orders.findBest(garage, cars));
        return orders.carOfBest(i);
    }

    public int plainMoves(long cars)
            throws IndexOutOfBoundsException, IllegalArgumentException, NoSuchElementException {
        checkSet(cars);
        int moves = orders.movesInPlainOrder(garage, cars);
        checkPossible(moves != 0);
        return moves;
    }

    public int retrieveAll(long cars)
            throws IndexOutOfBoundsException, IllegalArgumentException, NoSuchElementException {
        checkSet(cars);
        checkPossible(orders.findBest(garage, cars));
        history.draft(garage);
        int count = Long.bitCount(cars);
        for (int i = 0; i < count; i++) {
            garage.fetch(orders.carOfBest(i));
        }
        history.keepDraft();
        return orders.endOfBest();
    }

    public int tidy() {
        history.draft(garage);
        int moved = garage.tidyUp();
        history.keepDraft();
        return moved;
    }

    // ---- time and machines

    public int pass(int minutes) throws IllegalArgumentException, IllegalStateException {
        if (!isPass(minutes)) {
            throw new IllegalArgumentException("minutes are 1 to 999");
        }
        history.draft(garage);
        if (!garage.letPass(minutes)) {
            throw new IllegalStateException("the time would be greater than 9999");
        }
        history.keepDraft();
        return garage.time();
    }

    public int machine(int machine, int what) throws IndexOutOfBoundsException, IllegalArgumentException {
        checkMachine(machine);
        Machine asked = garage.machineOf(machine);
        switch (what) {
            case 0:
                return asked.place();
            case 1:
                return asked.freeFrom();
            case 2:
                return asked.minutes();
            default:
                throw new IllegalArgumentException("no such number about a machine");
        }
    }

    public int jobs() {
        return garage.log().kept();
    }

    public int job(int i, int what) throws IndexOutOfBoundsException, IllegalArgumentException {
        if (i < 0 || i >= garage.log().kept()) {
            throw new IndexOutOfBoundsException("no such job");
        }
        if (what < 0 || what >= JobLog.PARTS) {
            throw new IllegalArgumentException("no such part of a job");
        }
        return garage.log().partOf(i, what);
    }

    public int account(int what) throws IllegalArgumentException {
        switch (what) {
            case 0:
                return garage.time();
            case 1:
                return garage.came();
            case 2:
                return garage.came() - garage.countStored();
            case 3:
                return garage.moved();
            case 4:
                return garage.log().minutes();
            case 5:
                return garage.log().greatestEnd();
            default:
                throw new IllegalArgumentException("no such account");
        }
    }

    public float load(int machine) throws IndexOutOfBoundsException, ArithmeticException {
        checkMachine(machine);
        Machine asked = garage.machineOf(machine);
        if (asked.freeFrom() == 0) {
            throw new ArithmeticException("the machine is free from the time 0 on");
        }
        return (float) asked.minutes() / (float) asked.freeFrom();
    }

    public double meanJob() throws ArithmeticException {
        if (garage.log().total() == 0) {
            throw new ArithmeticException("there were no jobs");
        }
        return (double) garage.log().minutes() / (double) garage.log().total();
    }

    // ---- reports, commands, undo and snapshots

    public int report(int level, int what) throws NoSuchElementException, IllegalArgumentException {
        if (!hasReport || level < 0 || level >= REPORT_LEVELS) {
            throw new NoSuchElementException("no such level, or no report");
        }
        switch (what) {
            case 0:
                return level + 1;
            case 1:
                return reportDetails[level];
            default:
                throw new IllegalArgumentException("no such part of a level");
        }
    }

    public int feed(char letter) throws IllegalStateException {
        if (!text.append(letter)) {
            throw new IllegalStateException("the buffer already holds 60 characters");
        }
        return text.length();
    }

    public int perform() throws UnsupportedOperationException {
        int errorPosition = text.parse();
        text.empty();
        if (errorPosition != NONE) {
            return -100 - errorPosition;
        }
        history.draft(garage);
        for (int i = 0; i < text.commands(); i++) {
            if (!carryOut(text.kindOf(i), text.sizeOf(i), text.numberOf(i))) {
                history.returnToDraft(garage);
                throw new UnsupportedOperationException("a command cannot be carried out");
            }
        }
        history.keepDraft();
        return text.commands();
    }

    public int undo() throws IllegalStateException {
        if (history.count() == 0) {
            throw new IllegalStateException("no change can be taken back");
        }
        history.takeBack(garage);
        return history.count();
    }

    public int save() {
        saved.copyFrom(garage);
        isSaved = true;
        return garage.countStored();
    }

    public int restore() throws IllegalStateException {
        if (!isSaved) {
            throw new IllegalStateException("nothing was saved");
        }
        garage.copyFrom(saved);
        history.clear();
        return garage.countStored();
    }

    // ---- what several calls need

    /** Returns the number of jobs; 0 if the retrieval is refused, of which a report is left. */
    private int fetchOrReport(int car) {
        int made = garage.fetch(car);
        if (made == 0) {
            reportDetails[0] = car;
            reportDetails[1] = garage.blockerOf(car);
            reportDetails[2] = garage.countOpenWithoutCar(false);
            hasReport = true;
        }
        return made;
    }

    /** Returns whether the corresponding method would not throw an exception. */
    private boolean carryOut(char kind, int size, int number) {
        if (kind == 's') {
            return !garage.isFull() && garage.takeIn(size, number) != NONE;
        }
        if (kind == 'r') {
            return garage.isStored(number) && fetchOrReport(number) != 0;
        }
        if (kind == 't') {
            return isPass(number) && garage.letPass(number);
        }
        if (!isBay(number)) {
            return false;
        }
        garage.changeClosed(number, kind == 'c');
        return true;
    }

    private void checkSizeAndPickup(int size, int pickup) {
        if (size < 0 || size > LARGE || !isTime(pickup)) {
            throw new IllegalArgumentException("the size or the pickup is out of range");
        }
    }

    private void checkTime(int time) {
        if (!isTime(time)) {
            throw new IllegalArgumentException("the time is out of range");
        }
    }

    private void checkStored(int car) {
        if (!garage.isStored(car)) {
            throw new IndexOutOfBoundsException("no such car, or it is gone");
        }
    }

    private void checkBay(int bay) {
        if (!isBay(bay)) {
            throw new IndexOutOfBoundsException("no such bay");
        }
    }

    private void checkMachine(int machine) {
        if (machine < 0 || machine >= MACHINES) {
            throw new IndexOutOfBoundsException("no such machine");
        }
    }

    private void checkSet(long cars) {
        if (cars == 0 || (cars & ~garage.storedUntil(LAST_TIME)) != 0) {
            throw new IndexOutOfBoundsException("the set is empty, or contains a car that is not stored");
        }
        if (Long.bitCount(cars) > MOST_ORDERED) {
            throw new IllegalArgumentException("the set contains more than 5 cars");
        }
    }

    private void checkPossible(boolean isPossible) {
        if (!isPossible) {
            throw new NoSuchElementException("the order is impossible");
        }
    }

    private static boolean isTime(int time) {
        return time >= 0 && time <= LAST_TIME;
    }

    private static boolean isPass(int minutes) {
        return minutes >= 1 && minutes <= LONGEST_PASS;
    }

    private static boolean isBay(int bay) {
        return bay >= 0 && bay < BAYS;
    }

    private static int levelOf(int bay) {
        return bay / BAYS_OF_LEVEL;
    }

    private static int sideOf(int bay) {
        return bay % BAYS_OF_LEVEL / BAYS_OF_SIDE;
    }

    private static int columnOf(int bay) {
        return bay % BAYS_OF_SIDE / BAYS_OF_COLUMN;
    }

    private static int depthOf(int bay) {
        return bay % BAYS_OF_COLUMN;
    }

    private static boolean isWide(int bay) {
        return columnOf(bay) % 2 == 0;
    }

    private static int effortToStore(int bay) {
        return EFFORT_OF_LEVEL * levelOf(bay) + columnOf(bay) + depthOf(bay);
    }

    private static int effortToMove(int from, int to) {
        if (levelOf(from) == levelOf(to)) {
            return Math.abs(columnOf(from) - columnOf(to)) + depthOf(to);
        }
        int levels = Math.abs(levelOf(from) - levelOf(to));
        return EFFORT_OF_LIFT + EFFORT_OF_LEVEL * levels + columnOf(from) + columnOf(to) + depthOf(to);
    }

    /** The lift or a shuttle; in a job it is started, does its parts and is finished. */
    private static final class Machine {
        private static final int HANDOVER = 2;

        private final int pace;
        private int place;
        private int freeFrom;
        private int minutes;

        Machine(int pace) {
            this.pace = pace;
        }

        void copyFrom(Machine other) {
            place = other.place;
            freeFrom = other.freeFrom;
            minutes = other.minutes;
        }

        int place() {
            return place;
        }

        int freeFrom() {
            return freeFrom;
        }

        int minutes() {
            return minutes;
        }

        /** Returns when it begins. Until finish adds the end of its part, its minutes are short of that. */
        int start(int now) {
            freeFrom = Math.max(now, freeFrom);
            minutes -= freeFrom;
            return freeFrom;
        }

        void goTo(int target) {
            freeFrom += Math.abs(target - place) * pace;
            place = target;
        }

        void work(int duration) {
            freeFrom += duration;
        }

        void handOver(Machine other) {
            int end = Math.max(freeFrom, other.freeFrom) + HANDOVER;
            freeFrom = end;
            other.freeFrom = end;
        }

        /** Returns when it ends. */
        int finish() {
            minutes += freeFrom;
            return freeFrom;
        }
    }

    /** The jobs that are kept, in a ring, and the sums over all jobs. */
    private static final class JobLog {
        static final int PARTS = 5;
        private static final int MOST_KEPT = 20;
        private static final int BEGIN = 3;
        private static final int END = 4;

        private final int[] rows = new int[MOST_KEPT * PARTS];
        private int total;
        private int minutes;
        private int greatestEnd;

        void copyFrom(JobLog other) {
            System.arraycopy(other.rows, 0, rows, 0, rows.length);
            total = other.total;
            minutes = other.minutes;
            greatestEnd = other.greatestEnd;
        }

        int total() {
            return total;
        }

        int minutes() {
            return minutes;
        }

        int greatestEnd() {
            return greatestEnd;
        }

        int kept() {
            return Math.min(total, MOST_KEPT);
        }

        void add(int car, int from, int to, int begin, int end) {
            int row = total % MOST_KEPT * PARTS;
            rows[row] = car;
            rows[row + 1] = from;
            rows[row + 2] = to;
            rows[row + BEGIN] = begin;
            rows[row + END] = end;
            total++;
            minutes += end - begin;
            greatestEnd = Math.max(greatestEnd, end);
        }

        int partOf(int i, int part) {
            return rows[(total - kept() + i) % MOST_KEPT * PARTS + part];
        }

        /** The greatest end of the latest jobs. */
        int endOfLatest(int count) {
            int end = 0;
            for (int i = Math.max(kept() - count, 0); i < kept(); i++) {
                end = Math.max(end, partOf(i, END));
            }
            return end;
        }
    }

    /** The present time, the machines and the jobs that they do. */
    private static final class Plant {
        private static final int LIFT_PACE = 3;
        private static final int SHUTTLE_PACE = 1;
        private static final int GATE_WORK = 2;
        private static final int BAY_WORK = 2;

        private final Machine[] machines = new Machine[MACHINES];
        private final Machine lift = new Machine(LIFT_PACE);
        private final JobLog log = new JobLog();
        private int time;

        Plant() {
            for (int level = 0; level < LEVELS; level++) {
                machines[level] = new Machine(SHUTTLE_PACE);
            }
            machines[LIFT] = lift;
        }

        void copyFrom(Plant other) {
            for (int i = 0; i < MACHINES; i++) {
                machines[i].copyFrom(other.machines[i]);
            }
            log.copyFrom(other.log);
            time = other.time;
        }

        /** The minutes that a shuttle needs to take a car out of a bay, or to put it into one. */
        private static int workAt(int bay) {
            return BAY_WORK + depthOf(bay);
        }

        void bringIn(int car, int to) {
            Machine shuttle = machines[levelOf(to)];
            int begin = Math.min(lift.start(time), shuttle.start(time));
            lift.goTo(0);
            lift.work(GATE_WORK);
            lift.goTo(levelOf(to));
            shuttle.goTo(0);
            lift.handOver(shuttle);
            shuttle.goTo(columnOf(to));
            shuttle.work(workAt(to));
            int end = Math.max(lift.finish(), shuttle.finish());
            log.add(car, NONE, to, begin, end);
        }

        void bringOut(int car, int from) {
            Machine shuttle = machines[levelOf(from)];
            int begin = Math.min(lift.start(time), shuttle.start(time));
            shuttle.goTo(columnOf(from));
            shuttle.work(workAt(from));
            shuttle.goTo(0);
            lift.goTo(levelOf(from));
            shuttle.handOver(lift);
            lift.goTo(0);
            lift.work(GATE_WORK);
            int end = Math.max(lift.finish(), shuttle.finish());
            log.add(car, from, NONE, begin, end);
        }

        void moveOnLevel(int car, int from, int to) {
            Machine shuttle = machines[levelOf(from)];
            int begin = shuttle.start(time);
            shuttle.goTo(columnOf(from));
            shuttle.work(workAt(from));
            shuttle.goTo(columnOf(to));
            shuttle.work(workAt(to));
            log.add(car, from, to, begin, shuttle.finish());
        }

        void moveToOtherLevel(int car, int from, int to) {
            Machine giver = machines[levelOf(from)];
            Machine taker = machines[levelOf(to)];
            int begin = Math.min(lift.start(time), Math.min(giver.start(time), taker.start(time)));
            giver.goTo(columnOf(from));
            giver.work(workAt(from));
            giver.goTo(0);
            lift.goTo(levelOf(from));
            giver.handOver(lift);
            lift.goTo(levelOf(to));
            taker.goTo(0);
            lift.handOver(taker);
            taker.goTo(columnOf(to));
            taker.work(workAt(to));
            int end = Math.max(lift.finish(), Math.max(giver.finish(), taker.finish()));
            log.add(car, from, to, begin, end);
        }
    }

    /** All that undo takes back and save saves. */
    private static final class Garage {
        /** Greater than any effort, so that a bad bay comes after all that are not bad. */
        private static final int BAD = 1000;

        private final boolean[] isClosed = new boolean[BAYS];
        private final int[] carIn = new int[BAYS];
        private final int[] sizes = new int[MOST_CARS];
        private final int[] pickups = new int[MOST_CARS];
        private final int[] bays = new int[MOST_CARS];
        private final int[] jobs = new int[MOST_CARS];
        /** A row for tidying alone, which is no part of the state. */
        private final int[] carsToFree = new int[MOST_CARS];
        private final Plant plant = new Plant();
        private int came;
        private int stored;
        private int moved;

        Garage() {
            for (int bay = 0; bay < BAYS; bay++) {
                carIn[bay] = NONE;
            }
        }

        void copyFrom(Garage other) {
            System.arraycopy(other.isClosed, 0, isClosed, 0, BAYS);
            System.arraycopy(other.carIn, 0, carIn, 0, BAYS);
            System.arraycopy(other.sizes, 0, sizes, 0, MOST_CARS);
            System.arraycopy(other.pickups, 0, pickups, 0, MOST_CARS);
            System.arraycopy(other.bays, 0, bays, 0, MOST_CARS);
            System.arraycopy(other.jobs, 0, jobs, 0, MOST_CARS);
            plant.copyFrom(other.plant);
            came = other.came;
            stored = other.stored;
            moved = other.moved;
        }

        int time() {
            return plant.time;
        }

        JobLog log() {
            return plant.log;
        }

        Machine machineOf(int number) {
            return plant.machines[number];
        }

        int came() {
            return came;
        }

        int moved() {
            return moved;
        }

        int countStored() {
            return stored;
        }

        boolean isFull() {
            return came >= MOST_CARS;
        }

        boolean isStored(int car) {
            return car >= 0 && car < came && bays[car] != NONE;
        }

        int sizeOf(int car) {
            return sizes[car];
        }

        int pickupOf(int car) {
            return pickups[car];
        }

        int bayOf(int car) {
            return bays[car];
        }

        int jobsOf(int car) {
            return jobs[car];
        }

        int blockerOf(int car) {
            return isStored(car) ? carBefore(bays[car]) : NONE;
        }

        boolean isClosed(int bay) {
            return isClosed[bay];
        }

        int carIn(int bay) {
            return carIn[bay];
        }

        /** The car in the front bay before a back bay: without one, a bay can be reached. */
        int carBefore(int bay) {
            return depthOf(bay) == BACK ? carIn[bay - 1] : NONE;
        }

        /** The set of the cars that are stored and have a pickup until a time. */
        long storedUntil(int time) {
            long set = 0;
            for (int car = 0; car < came; car++) {
                if (isStored(car) && pickups[car] <= time) {
                    set |= 1L << car;
                }
            }
            return set;
        }

        /** The set of the cars that are blocked; on demand, only those with an earlier pickup than their blocker. */
        long blockedCars(boolean isOnlyEarlier) {
            long set = 0;
            for (int car = 0; car < came; car++) {
                int blocker = blockerOf(car);
                if (blocker != NONE && (!isOnlyEarlier || pickups[car] < pickups[blocker])) {
                    set |= 1L << car;
                }
            }
            return set;
        }

        int countOpenWithoutCar(boolean isOnlyReached) {
            int count = 0;
            for (int bay = 0; bay < BAYS; bay++) {
                if (!isClosed[bay] && carIn[bay] == NONE && (!isOnlyReached || carBefore(bay) == NONE)) {
                    count++;
                }
            }
            return count;
        }

        int countClosed() {
            int count = 0;
            for (int bay = 0; bay < BAYS; bay++) {
                if (isClosed[bay]) {
                    count++;
                }
            }
            return count;
        }

        /** Writes the cars of a set into a row, by pickups, and for the same pickup by numbers; returns how many. */
        int listByPickup(long set, int[] row) {
            int count = 0;
            for (int car = 0; car < came && count < row.length; car++) {
                if ((set >> car & 1) == 0) {
                    continue;
                }
                int place = count;
                while (place > 0 && pickups[row[place - 1]] > pickups[car]) {
                    row[place] = row[place - 1];
                    place--;
                }
                row[place] = car;
                count++;
            }
            return count;
        }

        /** The bay that is chosen for a car: for one that comes if from is NONE; NONE if there is no candidate. */
        int chooseBay(int size, int pickup, int from) {
            int chosen = NONE;
            int least = 0;
            for (int bay = 0; bay < BAYS; bay++) {
                if (isClosed[bay] || carIn[bay] != NONE || carBefore(bay) != NONE || size == LARGE && !isWide(bay)) {
                    continue;
                }
                int rank = from == NONE ? effortToStore(bay) : effortToMove(from, bay);
                if (isBad(bay, pickup)) {
                    rank += BAD;
                }
                if (chosen == NONE || rank < least) {
                    chosen = bay;
                    least = rank;
                }
            }
            return chosen;
        }

        private boolean isBad(int bay, int pickup) {
            if (depthOf(bay) == BACK || carIn[bay + 1] == NONE) {
                return false;
            }
            return pickups[carIn[bay + 1]] < pickup;
        }

        /** The bay that is chosen for a car that is moved from its bay. */
        int bayToFlee(int car) {
            return chooseBay(sizes[car], pickups[car], bays[car]);
        }

        boolean letPass(int minutes) {
            if (plant.time + minutes > LAST_TIME) {
                return false;
            }
            plant.time += minutes;
            return true;
        }

        boolean changeClosed(int bay, boolean isToBeClosed) {
            boolean wasClosed = isClosed[bay];
            isClosed[bay] = isToBeClosed;
            return wasClosed;
        }

        int changePickup(int car, int pickup) {
            int previous = pickups[car];
            pickups[car] = pickup;
            return previous;
        }

        /** Stores a car; returns its bay, or NONE if there is none for it. */
        int takeIn(int size, int pickup) {
            int bay = chooseBay(size, pickup, NONE);
            if (bay == NONE || isFull()) {
                return NONE;
            }
            int car = came;
            sizes[car] = size;
            pickups[car] = pickup;
            bays[car] = bay;
            jobs[car] = 1;
            carIn[bay] = car;
            came++;
            stored++;
            plant.bringIn(car, bay);
            return bay;
        }

        /** Retrieves a car; returns the number of jobs, 0 if it is refused. */
        int fetch(int car) {
            if (!isStored(car)) {
                return 0;
            }
            int blocker = blockerOf(car);
            if (blocker != NONE) {
                int refuge = bayToFlee(blocker);
                if (refuge == NONE) {
                    return 0;
                }
                moveCar(blocker, refuge);
            }
            takeOut(car);
            return blocker == NONE ? 1 : 2;
        }

        private void takeOut(int car) {
            int from = bays[car];
            plant.bringOut(car, from);
            carIn[from] = NONE;
            bays[car] = NONE;
            jobs[car]++;
            stored--;
        }

        private void moveCar(int car, int to) {
            int from = bays[car];
            if (levelOf(from) == levelOf(to)) {
                plant.moveOnLevel(car, from, to);
            } else {
                plant.moveToOtherLevel(car, from, to);
            }
            carIn[from] = NONE;
            carIn[to] = car;
            bays[car] = to;
            jobs[car]++;
            moved++;
        }

        /** Returns the number of cars that are moved. */
        int tidyUp() {
            int movedBefore = moved;
            int count = listByPickup(blockedCars(true), carsToFree);
            for (int i = 0; i < count; i++) {
                freeFromLater(carsToFree[i]);
            }
            return moved - movedBefore;
        }

        private void freeFromLater(int car) {
            int blocker = blockerOf(car);
            if (blocker == NONE || pickups[car] >= pickups[blocker]) {
                return;
            }
            int refuge = bayToFlee(blocker);
            if (refuge != NONE && !isBad(refuge, pickups[blocker])) {
                moveCar(blocker, refuge);
            }
        }
    }

    /** What can be taken back: copies in a ring, which has one place more than changes for the draft. */
    private static final class History {
        private static final int PLACES = MOST_CHANGES + 1;

        private final Garage[] copies = new Garage[PLACES];
        private int next;
        private int count;

        History() {
            for (int i = 0; i < PLACES; i++) {
                copies[i] = new Garage();
            }
        }

        int count() {
            return count;
        }

        /** Copies the garage before a change, of which it is not known yet whether it succeeds. */
        void draft(Garage present) {
            copies[next].copyFrom(present);
        }

        void keepDraft() {
            next = (next + 1) % PLACES;
            count = Math.min(count + 1, MOST_CHANGES);
        }

        void returnToDraft(Garage present) {
            present.copyFrom(copies[next]);
        }

        void takeBack(Garage present) {
            next = (next + PLACES - 1) % PLACES;
            count--;
            present.copyFrom(copies[next]);
        }

        void clear() {
            count = 0;
        }
    }

    /** The search for orders of retrievals, on copies of the garage. */
    private static final class Orders {
        private final Garage[] steps = new Garage[MOST_ORDERED + 1];
        private final int[] cars = new int[MOST_ORDERED];
        private final int[] tried = new int[MOST_ORDERED];
        private final int[] best = new int[MOST_ORDERED];
        private int count;
        private int jobsBefore;
        private int bestMoves;
        private int bestEnd;

        Orders() {
            for (int i = 0; i <= MOST_ORDERED; i++) {
                steps[i] = new Garage();
            }
        }

        int movesOfBest() {
            return bestMoves;
        }

        int endOfBest() {
            return bestEnd;
        }

        int carOfBest(int place) {
            return best[place];
        }

        /** Returns whether an order of the set, of 1 to 5 cars, is possible; the best one is kept then. */
        boolean findBest(Garage present, long set) {
            begin(present);
            count = 0;
            for (int car = 0; car < MOST_CARS && count < MOST_ORDERED; car++) {
                if ((set >> car & 1) != 0) {
                    cars[count] = car;
                    count++;
                }
            }
            bestMoves = 0;
            tryFrom(0);
            return bestMoves != 0;
        }

        /** Returns the number of moves, 0 if the plain order is impossible. */
        int movesInPlainOrder(Garage present, long set) {
            begin(present);
            count = present.listByPickup(set, cars);
            for (int i = 0; i < count; i++) {
                if (steps[0].fetch(cars[i]) == 0) {
                    return 0;
                }
            }
            return movesAt(0);
        }

        private void begin(Garage present) {
            steps[0].copyFrom(present);
            jobsBefore = present.log().total();
        }

        private int movesAt(int depth) {
            return steps[depth].log().total() - jobsBefore;
        }

        /** The cars are tried by their numbers, so the first of equally good orders is the least. */
        private void tryFrom(int depth) {
            if (depth >= count) {
                judge(movesAt(depth), steps[depth].log());
                return;
            }
            for (int i = 0; i < count; i++) {
                if (steps[depth].isStored(cars[i])) {
                    tryNext(depth, cars[i]);
                }
            }
        }

        private void tryNext(int depth, int car) {
            steps[depth + 1].copyFrom(steps[depth]);
            if (steps[depth + 1].fetch(car) == 0 || isTooLong(depth + 1)) {
                return;
            }
            tried[depth] = car;
            tryFrom(depth + 1);
        }

        /** Every car that is left costs at least one move. */
        private boolean isTooLong(int depth) {
            return bestMoves != 0 && movesAt(depth) + count - depth > bestMoves;
        }

        private void judge(int moves, JobLog log) {
            int end = log.endOfLatest(moves);
            if (bestMoves != 0 && (moves > bestMoves || moves == bestMoves && end >= bestEnd)) {
                return;
            }
            bestMoves = moves;
            bestEnd = end;
            System.arraycopy(tried, 0, best, 0, count);
        }
    }

    /** The input buffer, and the commands that were read from it. */
    private static final class CommandText {
        private static final int MOST_LETTERS = 60;
        private static final int SHORTEST_COMMAND = 3;
        private static final int MOST_COMMANDS = MOST_LETTERS / SHORTEST_COMMAND;
        private static final int MOST_DIGITS = 4;
        private static final int AFTER_THE_END = -1;

        private final char[] letters = new char[MOST_LETTERS];
        private final char[] kinds = new char[MOST_COMMANDS];
        private final int[] sizes = new int[MOST_COMMANDS];
        private final int[] numbers = new int[MOST_COMMANDS];
        private int length;
        private int position;
        private int commands;

        int length() {
            return length;
        }

        boolean append(char letter) {
            if (length >= MOST_LETTERS) {
                return false;
            }
            letters[length] = letter;
            length++;
            return true;
        }

        /** Empties the buffer; the commands that were read stay. */
        void empty() {
            length = 0;
        }

        int commands() {
            return commands;
        }

        char kindOf(int i) {
            return kinds[i];
        }

        int sizeOf(int i) {
            return sizes[i];
        }

        int numberOf(int i) {
            return numbers[i];
        }

        /** Returns the error position, or NONE if the text is correct. */
        int parse() {
            position = 0;
            commands = 0;
            for (int i = 0; i < MOST_COMMANDS && (i == 0 || position < length); i++) {
                if (!readCommand(i)) {
                    return position;
                }
                commands++;
            }
            return NONE;
        }

        private boolean readCommand(int i) {
            int kind = letterHere();
            if (kind != 's' && kind != 'r' && kind != 't' && kind != 'c' && kind != 'o') {
                return false;
            }
            kinds[i] = (char) kind;
            position++;
            return (kind != 's' || readSize(i)) && readNumber(i) && readLetter(';');
        }

        private boolean readSize(int i) {
            int digit = letterHere();
            if (digit != '0' && digit != '1') {
                return false;
            }
            sizes[i] = digit - '0';
            position++;
            return readLetter(',');
        }

        private boolean readNumber(int i) {
            int number = 0;
            int digits = 0;
            while (digits < MOST_DIGITS && letterHere() >= '0' && letterHere() <= '9') {
                number = number * 10 + letterHere() - '0';
                position++;
                digits++;
            }
            numbers[i] = number;
            return digits > 0;
        }

        private boolean readLetter(char letter) {
            if (letterHere() != letter) {
                return false;
            }
            position++;
            return true;
        }

        private int letterHere() {
            return position < length ? letters[position] : AFTER_THE_END;
        }
    }
}
