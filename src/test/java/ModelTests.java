import java.util.ArrayList;
import java.util.List;
import java.util.Map;
import java.util.Random;
import java.util.TreeMap;
import java.util.concurrent.Callable;

/** Runs of at most 512 calls, each call asked of the program and of the model; the seeds are fixed. */
public final class ModelTests {
    private static final int RUNS = 1500;
    private static final int CALLS = 512;
    private static final int MOST_SHOWN = 5;

    private final Checks checks = new Checks();
    private final Map<String, Integer> seen = new TreeMap<>();
    private Random random;
    private ParkingRobot robot;
    private Model model;
    private List<String> calls;
    private boolean isBroken;
    private int pickupSpan;

    public static void main(String[] args) {
        ModelTests tests = new ModelTests();
        int shown = 0;
        for (int seed = 0; seed < RUNS && shown < MOST_SHOWN; seed++) {
            shown += tests.run(seed) ? 0 : 1;
        }
        tests.checkSeen();
        tests.checks.finish("ModelTests");
    }

    private boolean run(int seed) {
        checks.part("seed " + seed);
        random = new Random(seed);
        robot = new ParkingRobot();
        model = new Model();
        calls = new ArrayList<>();
        isBroken = false;
        pickupSpan = new int[] {3, 12, 100, 10000}[random.nextInt(4)];
        prepare();
        while (calls.size() < CALLS && !isBroken) {
            step();
        }
        if (isBroken) {
            System.out.println("seed " + seed + ": " + String.join("; ", calls));
        }
        return !isBroken;
    }

    /** Back bays get cars only while the front bays before them are closed, so that comes first. */
    private void prepare() {
        List<Integer> fronts = new ArrayList<>();
        int levels = 1 + random.nextInt(3);
        for (int bay = 0; bay < 20 * levels; bay += 2) {
            if (random.nextInt(3) != 0) {
                fronts.add(bay);
            }
        }
        fronts.forEach(bay -> setClosed(bay, true));
        int first = random.nextInt(16);
        for (int i = 0; i < first; i++) {
            store();
        }
        fronts.forEach(bay -> setClosed(bay, false));
        int second = random.nextInt(25);
        for (int i = 0; i < second; i++) {
            store();
        }
        if (random.nextInt(3) == 0) {
            closeMostEmptyBays();
        }
    }

    private void closeMostEmptyBays() {
        int spared = random.nextInt(4);
        for (int bay = 0; bay < 60; bay++) {
            if (model.bay(bay, 6) < 0 && random.nextInt(30) >= spared) {
                setClosed(bay, true);
            }
        }
    }

    private void step() {
        int kind = random.nextInt(100);
        if (kind < 40) {
            change(random.nextInt(40));
        } else if (kind < 60) {
            askAboutCarsAndBays(random.nextInt(6));
        } else if (kind < 75) {
            askAboutOrders(random.nextInt(4));
        } else if (kind < 90) {
            askAboutTimes(random.nextInt(7));
        } else {
            command();
        }
    }

    private void change(int kind) {
        if (kind < 9) {
            store();
        } else if (kind < 16) {
            int car = car();
            same("retrieve(" + car + ")", () -> robot.retrieve(car), () -> model.retrieve(car));
        } else if (kind < 20) {
            int car = car();
            int pickup = pickup();
            same("book(" + car + ", " + pickup + ")", () -> robot.book(car, pickup), () -> model.book(car, pickup));
        } else if (kind < 25) {
            setClosed(among(60), random.nextInt(3) == 0);
        } else if (kind < 27) {
            long cars = set();
            same("retrieveAll(" + cars + ")", () -> robot.retrieveAll(cars), () -> model.retrieveAll(cars));
        } else if (kind < 30) {
            same("tidy()", () -> robot.tidy(), () -> model.tidy());
        } else if (kind < 33) {
            int minutes = random.nextInt(4) == 0 ? among(1000) : 1 + random.nextInt(40);
            same("pass(" + minutes + ")", () -> robot.pass(minutes), () -> model.pass(minutes));
        } else if (kind < 37) {
            same("undo()", () -> robot.undo(), () -> model.undo());
        } else if (kind < 38) {
            same("save()", () -> robot.save(), () -> model.save());
        } else if (kind < 39) {
            same("restore()", () -> robot.restore(), () -> model.restore());
        } else {
            closeMostEmptyBays();
        }
    }

    private void askAboutCarsAndBays(int kind) {
        int what = among(8);
        if (kind == 0) {
            int car = car();
            same("car(" + car + ", " + what + ")", () -> robot.car(car, what), () -> model.car(car, what));
        } else if (kind == 1) {
            int bay = among(60);
            same("bay(" + bay + ", " + what + ")", () -> robot.bay(bay, what), () -> model.bay(bay, what));
        } else if (kind == 2) {
            int size = among(2);
            int pickup = pickup();
            same("choice(" + size + ", " + pickup + ")", () -> robot.choice(size, pickup),
                () -> model.choice(size, pickup));
        } else if (kind == 3) {
            int car = car();
            same("refuge(" + car + ")", () -> robot.refuge(car), () -> model.refuge(car));
        } else if (kind == 4) {
            same("bays(" + what + ")", () -> robot.bays(what), () -> model.bays(what));
        } else {
            int time = pickup();
            same("due(" + time + ")", () -> robot.due(time), () -> model.due(time));
        }
    }

    private void askAboutOrders(int kind) {
        long cars = set();
        if (kind == 0) {
            same("bestMoves(" + cars + ")", () -> robot.bestMoves(cars), () -> model.bestMoves(cars));
            same("plainMoves(" + cars + ")", () -> robot.plainMoves(cars), () -> model.plainMoves(cars));
        } else if (kind == 1) {
            same("bestEnd(" + cars + ")", () -> robot.bestEnd(cars), () -> model.bestEnd(cars));
        } else {
            int i = among(5);
            same("bestCar(" + cars + ", " + i + ")", () -> robot.bestCar(cars, i), () -> model.bestCar(cars, i));
        }
    }

    private void askAboutTimes(int kind) {
        int what = among(6);
        int number = among(4);
        if (kind == 0) {
            same("machine(" + number + ", " + what + ")", () -> robot.machine(number, what),
                () -> model.machine(number, what));
        } else if (kind == 1) {
            same("jobs()", () -> robot.jobs(), () -> model.jobs());
        } else if (kind == 2) {
            int i = among(20);
            same("job(" + i + ", " + what + ")", () -> robot.job(i, what), () -> model.job(i, what));
        } else if (kind == 3) {
            same("account(" + what + ")", () -> robot.account(what), () -> model.account(what));
        } else if (kind == 4) {
            same("load(" + number + ")", () -> robot.load(number), () -> model.load(number));
        } else if (kind == 5) {
            same("meanJob()", () -> robot.meanJob(), () -> model.meanJob());
        } else {
            same("report(" + number + ", " + (what - 2) + ")", () -> robot.report(number, what - 2),
                () -> model.report(number, what - 2));
        }
    }

    private void command() {
        StringBuilder text = new StringBuilder();
        int commands = random.nextInt(5) == 0 ? random.nextInt(12) : 1 + random.nextInt(3);
        for (int i = 0; i < commands; i++) {
            int kind = random.nextInt(9);
            if (kind < 3) {
                text.append('s').append(random.nextInt(2)).append(',').append(padded(pickup()));
            } else if (kind < 6) {
                text.append('r').append(padded(car()));
            } else if (kind < 7) {
                text.append('t').append(padded(random.nextInt(9) == 0 ? 0 : 1 + random.nextInt(40)));
            } else {
                text.append(kind == 7 ? 'c' : 'o').append(padded(random.nextInt(random.nextInt(9) == 0 ? 100 : 60)));
            }
            text.append(';');
        }
        if (random.nextInt(6) == 0) {
            spoil(text);
        }
        for (int i = 0; i < text.length(); i++) {
            char letter = text.charAt(i);
            same("feed(" + (int) letter + ")", () -> robot.feed(letter), () -> model.feed(letter));
        }
        same("perform()", () -> robot.perform(), () -> model.perform());
    }

    private String padded(int any) {
        int number = Math.floorMod(any, 10000);
        String digits = String.valueOf(number);
        return random.nextInt(3) == 0 ? "0".repeat(4 - digits.length()) + digits : digits;
    }

    private void spoil(StringBuilder text) {
        int at = random.nextInt(text.length() + 1);
        String wrong = "srtco0159,;- S\u0000\u00e9\uffff\n";
        if (random.nextInt(3) == 0) {
            text.setLength(at);
        } else {
            text.insert(at, wrong.charAt(random.nextInt(wrong.length())));
        }
    }

    private void store() {
        int size = random.nextInt(40) == 0 ? among(2) : random.nextInt(2);
        int pickup = pickup();
        same("store(" + size + ", " + pickup + ")", () -> robot.store(size, pickup), () -> model.store(size, pickup));
    }

    private void setClosed(int bay, boolean isClosed) {
        same("setClosed(" + bay + ", " + isClosed + ")", () -> robot.setClosed(bay, isClosed),
            () -> model.setClosed(bay, isClosed));
    }

    /** Mostly in the range, at times at its edges or beyond. */
    private int among(int count) {
        int kind = random.nextInt(60);
        if (kind < 4) {
            return new int[] {-1, count, Integer.MIN_VALUE, Integer.MAX_VALUE}[kind];
        }
        return random.nextInt(count);
    }

    private int pickup() {
        int kind = random.nextInt(50);
        if (kind < 4) {
            return new int[] {-1, 0, 9999, 10000}[kind];
        }
        return random.nextInt(pickupSpan);
    }

    private int car() {
        return random.nextInt(5) == 0 ? among(44) : storedCar();
    }

    private int storedCar() {
        long cars = model.due(9999);
        if (cars == 0) {
            return 0;
        }
        int skipped = random.nextInt(Long.bitCount(cars));
        for (int i = 0; i < skipped; i++) {
            cars &= cars - 1;
        }
        return Long.numberOfTrailingZeros(cars);
    }

    private long set() {
        long set = 0;
        int count = 1 + random.nextInt(random.nextInt(20) == 0 ? 7 : 5);
        for (int i = 0; i < count; i++) {
            set |= 1L << storedCar();
        }
        int kind = random.nextInt(40);
        if (kind == 0) {
            set = 0;
        } else if (kind == 1) {
            set |= 1L << random.nextInt(64);
        }
        return set;
    }

    private void same(String call, Callable<?> got, Callable<?> want) {
        if (calls.size() >= CALLS || isBroken) {
            return;
        }
        calls.add(call);
        String due = Checks.answer(want);
        int failed = checks.failed();
        checks.due(call, got, due);
        isBroken = checks.failed() != failed;
        note(call, due);
    }

    private void note(String call, String due) {
        String name = call.substring(0, call.indexOf('('));
        boolean isNumber = due.matches("-?[0-9.Ef]+|true|false");
        String kind = isNumber ? due.startsWith("-1") ? "negative" : due.equals("0") ? "nought" : "number" : due;
        seen.merge(name + " " + kind, 1, Integer::sum);
    }

    /** The runs are worth something only if they meet what is rare. */
    private void checkSeen() {
        checks.part("met in the runs");
        String[] rare = {"retrieve UnsupportedOperationException", "store UnsupportedOperationException",
            "store IllegalStateException", "choice NoSuchElementException", "refuge NoSuchElementException",
            "bestMoves NoSuchElementException", "bestEnd NoSuchElementException", "bestCar NoSuchElementException",
            "plainMoves NoSuchElementException", "retrieveAll NoSuchElementException", "retrieveAll number",
            "bestMoves IllegalArgumentException", "bestCar IllegalArgumentException", "tidy number",
            "perform UnsupportedOperationException", "perform negative", "perform number", "report number",
            "undo number", "undo nought", "undo IllegalStateException", "restore number", "pass number"};
        for (String name : rare) {
            checks.due(name + " ten times or more", seen.getOrDefault(name, 0) >= 10, true);
        }
    }
}
