import java.util.ArrayList;
import java.util.Comparator;
import java.util.List;
import java.util.NoSuchElementException;
import java.util.regex.Matcher;
import java.util.regex.Pattern;

/** The document once more, in other words than the program's: slow, with fresh copies and all orders written out. */
final class Model {
    private record Spot(int level, int side, int column, int depth) {
        static Spot of(int bay) {
            return new Spot(bay / 20, bay / 10 % 2, bay / 2 % 5, bay % 2);
        }

        int number() {
            return ((level * 2 + side) * 5 + column) * 2 + depth;
        }

        boolean wide() {
            return column == 0 || column == 2 || column == 4;
        }

        Spot front() {
            return new Spot(level, side, column, 0);
        }

        Spot back() {
            return new Spot(level, side, column, 1);
        }
    }

    private static final class Vehicle {
        int size;
        int pickup;
        Spot spot;
        int jobs;

        Vehicle copy() {
            Vehicle v = new Vehicle();
            v.size = size;
            v.pickup = pickup;
            v.spot = spot;
            v.jobs = jobs;
            return v;
        }
    }

    private record Work(int car, int from, int to, int begin, int end) {
        int part(int what) {
            return new int[] {car, from, to, begin, end}[what];
        }
    }

    private static final class Engine {
        int at;
        int free;
        int sum;

        Engine copy() {
            Engine e = new Engine();
            e.at = at;
            e.free = free;
            e.sum = sum;
            return e;
        }

        int ready(int now) {
            return free > now ? free : now;
        }

        void done(int began, int ended, int where) {
            sum += ended - began;
            free = ended;
            at = where;
        }
    }

    private static final class State {
        int now;
        List<Vehicle> vehicles = new ArrayList<>();
        boolean[] closed = new boolean[60];
        List<Engine> engines = new ArrayList<>();
        List<Work> works = new ArrayList<>();
        int moved;

        State() {
            for (int i = 0; i < 4; i++) {
                engines.add(new Engine());
            }
        }

        State copy() {
            State s = new State();
            s.now = now;
            for (Vehicle v : vehicles) {
                s.vehicles.add(v.copy());
            }
            s.closed = closed.clone();
            s.engines.clear();
            for (Engine e : engines) {
                s.engines.add(e.copy());
            }
            s.works.addAll(works);
            s.moved = moved;
            return s;
        }

        boolean stored(int car) {
            return car >= 0 && car < vehicles.size() && vehicles.get(car).spot != null;
        }

        List<Integer> storedCars() {
            List<Integer> cars = new ArrayList<>();
            for (int car = 0; car < vehicles.size(); car++) {
                if (stored(car)) {
                    cars.add(car);
                }
            }
            return cars;
        }

        int occupant(Spot spot) {
            for (int car : storedCars()) {
                if (vehicles.get(car).spot.equals(spot)) {
                    return car;
                }
            }
            return -1;
        }

        boolean reachable(Spot spot) {
            return spot.depth() == 0 || occupant(spot.front()) < 0;
        }

        int blocker(int car) {
            Spot spot = vehicles.get(car).spot;
            return spot.depth() == 1 ? occupant(spot.front()) : -1;
        }

        boolean bad(Spot spot, int pickup) {
            if (spot.depth() == 1) {
                return false;
            }
            int behind = occupant(spot.back());
            return behind >= 0 && vehicles.get(behind).pickup < pickup;
        }

        /** Null if there is no candidate; from is null for a car that comes. */
        Spot chosen(int size, int pickup, Spot from) {
            List<Spot> candidates = new ArrayList<>();
            for (int bay = 0; bay < 60; bay++) {
                Spot spot = Spot.of(bay);
                if (!closed[bay] && occupant(spot) < 0 && (size == 0 || spot.wide()) && reachable(spot)) {
                    candidates.add(spot);
                }
            }
            candidates.sort(Comparator.comparing((Spot s) -> bad(s, pickup))
                    .thenComparing(s -> effort(from, s))
                    .thenComparing(Spot::number));
            return candidates.isEmpty() ? null : candidates.get(0);
        }

        static int effort(Spot from, Spot to) {
            if (from == null) {
                return 3 * to.level() + to.column() + to.depth();
            }
            if (from.level() != to.level()) {
                return 20 + 3 * Math.abs(from.level() - to.level()) + from.column() + to.column() + to.depth();
            }
            return Math.abs(from.column() - to.column()) + to.depth();
        }

        Spot refuge(int car) {
            Vehicle v = vehicles.get(car);
            return chosen(v.size, v.pickup, v.spot);
        }

        int add(int size, int pickup) {
            Spot spot = chosen(size, pickup, null);
            if (spot == null) {
                throw new UnsupportedOperationException();
            }
            Vehicle v = new Vehicle();
            v.size = size;
            v.pickup = pickup;
            v.spot = spot;
            v.jobs = 1;
            vehicles.add(v);
            jobIn(vehicles.size() - 1, spot);
            return spot.number();
        }

        void jobIn(int car, Spot spot) {
            Engine lift = engines.get(3);
            Engine shuttle = engines.get(spot.level());
            int liftBegins = lift.ready(now);
            int shuttleBegins = shuttle.ready(now);
            int liftThere = liftBegins + 3 * lift.at + 2 + 3 * spot.level();
            int shuttleThere = shuttleBegins + shuttle.at;
            int handed = Math.max(liftThere, shuttleThere) + 2;
            int put = handed + spot.column() + 2 + spot.depth();
            lift.done(liftBegins, handed, spot.level());
            shuttle.done(shuttleBegins, put, spot.column());
            works.add(new Work(car, -1, spot.number(), Math.min(liftBegins, shuttleBegins), put));
        }

        void jobOut(int car, Spot spot) {
            Engine lift = engines.get(3);
            Engine shuttle = engines.get(spot.level());
            int liftBegins = lift.ready(now);
            int shuttleBegins = shuttle.ready(now);
            int shuttleThere = shuttleBegins + Math.abs(shuttle.at - spot.column()) + 2 + spot.depth() + spot.column();
            int liftThere = liftBegins + 3 * Math.abs(lift.at - spot.level());
            int handed = Math.max(liftThere, shuttleThere) + 2;
            int out = handed + 3 * spot.level() + 2;
            shuttle.done(shuttleBegins, handed, 0);
            lift.done(liftBegins, out, 0);
            works.add(new Work(car, spot.number(), -1, Math.min(liftBegins, shuttleBegins), out));
        }

        void jobMove(int car, Spot from, Spot to) {
            Engine shuttle = engines.get(from.level());
            int begins = shuttle.ready(now);
            int taken = begins + Math.abs(shuttle.at - from.column()) + 2 + from.depth();
            if (from.level() == to.level()) {
                int put = taken + Math.abs(from.column() - to.column()) + 2 + to.depth();
                shuttle.done(begins, put, to.column());
                works.add(new Work(car, from.number(), to.number(), begins, put));
                return;
            }
            Engine lift = engines.get(3);
            Engine other = engines.get(to.level());
            int liftBegins = lift.ready(now);
            int otherBegins = other.ready(now);
            int liftThere = liftBegins + 3 * Math.abs(lift.at - from.level());
            int given = Math.max(taken + from.column(), liftThere) + 2;
            int above = given + 3 * Math.abs(from.level() - to.level());
            int handed = Math.max(above, otherBegins + other.at) + 2;
            int put = handed + to.column() + 2 + to.depth();
            shuttle.done(begins, given, 0);
            lift.done(liftBegins, handed, to.level());
            other.done(otherBegins, put, to.column());
            int begin = Math.min(begins, Math.min(liftBegins, otherBegins));
            works.add(new Work(car, from.number(), to.number(), begin, put));
        }

        void move(int car, Spot to) {
            Vehicle v = vehicles.get(car);
            jobMove(car, v.spot, to);
            v.spot = to;
            v.jobs++;
            moved++;
        }

        boolean out(int car) {
            int blocker = blocker(car);
            if (blocker >= 0) {
                Spot refuge = refuge(blocker);
                if (refuge == null) {
                    return false;
                }
                move(blocker, refuge);
            }
            Vehicle v = vehicles.get(car);
            jobOut(car, v.spot);
            v.spot = null;
            v.jobs++;
            return true;
        }

        int openWithoutCar(boolean reachedOnly) {
            int count = 0;
            for (int bay = 0; bay < 60; bay++) {
                Spot spot = Spot.of(bay);
                if (!closed[bay] && occupant(spot) < 0 && (!reachedOnly || reachable(spot))) {
                    count++;
                }
            }
            return count;
        }
    }

    private record Order(List<Integer> cars, int moves, int end) {
    }

    private State state = new State();
    private State kept;
    private final List<State> past = new ArrayList<>();
    private String buffer = "";
    private int[] report;

    private static void need(boolean condition, RuntimeException otherwise) {
        if (!condition) {
            throw otherwise;
        }
    }

    private void needCar(int car) {
        need(state.stored(car), new IndexOutOfBoundsException());
    }

    private static void needTime(int time) {
        need(time >= 0 && time <= 9999, new IllegalArgumentException());
    }

    private static void needWhat(int what, int last) {
        need(what >= 0 && what <= last, new IllegalArgumentException());
    }

    private void changed(State before) {
        past.add(before);
        if (past.size() > 6) {
            past.remove(0);
        }
    }

    // what perform carries out, without the list of what can be taken back

    private int plainStore(int size, int pickup) {
        needWhat(size, 1);
        needTime(pickup);
        need(state.vehicles.size() < 40, new IllegalStateException());
        return state.add(size, pickup);
    }

    private int plainRetrieve(int car) {
        needCar(car);
        int before = state.works.size();
        if (!state.out(car)) {
            report = new int[] {car, state.blocker(car), state.openWithoutCar(false)};
            throw new UnsupportedOperationException();
        }
        return state.works.size() - before;
    }

    private boolean plainClose(int bay, boolean isClosed) {
        need(bay >= 0 && bay <= 59, new IndexOutOfBoundsException());
        boolean was = state.closed[bay];
        state.closed[bay] = isClosed;
        return was;
    }

    private int plainPass(int minutes) {
        need(minutes >= 1 && minutes <= 999, new IllegalArgumentException());
        need(state.now + minutes <= 9999, new IllegalStateException());
        state.now += minutes;
        return state.now;
    }

    // the face

    int store(int size, int pickup) {
        State before = state.copy();
        int bay = plainStore(size, pickup);
        changed(before);
        return bay;
    }

    int retrieve(int car) {
        State before = state.copy();
        int jobs = plainRetrieve(car);
        changed(before);
        return jobs;
    }

    int book(int car, int pickup) {
        needCar(car);
        needTime(pickup);
        changed(state.copy());
        int was = state.vehicles.get(car).pickup;
        state.vehicles.get(car).pickup = pickup;
        return was;
    }

    int car(int car, int what) {
        needCar(car);
        needWhat(what, 4);
        Vehicle v = state.vehicles.get(car);
        return new int[] {v.size, v.pickup, v.spot.number(), state.blocker(car), v.jobs}[what];
    }

    long due(int time) {
        needTime(time);
        long set = 0;
        for (int car : state.storedCars()) {
            if (state.vehicles.get(car).pickup <= time) {
                set += 1L << car;
            }
        }
        return set;
    }

    boolean setClosed(int bay, boolean isClosed) {
        State before = state.copy();
        boolean was = plainClose(bay, isClosed);
        changed(before);
        return was;
    }

    int bay(int bay, int what) {
        need(bay >= 0 && bay <= 59, new IndexOutOfBoundsException());
        needWhat(what, 7);
        Spot s = Spot.of(bay);
        return new int[] {s.level(), s.side(), s.column(), s.depth(), s.wide() ? 1 : 0, state.closed[bay] ? 1 : 0,
            state.occupant(s), state.reachable(s) ? 1 : 0}[what];
    }

    int choice(int size, int pickup) {
        needWhat(size, 1);
        needTime(pickup);
        Spot spot = state.chosen(size, pickup, null);
        need(spot != null, new NoSuchElementException());
        return spot.number();
    }

    int refuge(int car) {
        needCar(car);
        Spot spot = state.refuge(car);
        need(spot != null, new NoSuchElementException());
        return spot.number();
    }

    int bays(int what) {
        needWhat(what, 5);
        int shut = 0;
        for (boolean isClosed : state.closed) {
            shut += isClosed ? 1 : 0;
        }
        int blocked = 0;
        for (int car : state.storedCars()) {
            blocked += state.blocker(car) >= 0 ? 1 : 0;
        }
        return new int[] {state.storedCars().size(), state.openWithoutCar(false), state.openWithoutCar(true), shut,
            blocked, hindered().size()}[what];
    }

    /** The cars whose blocker has a later pickup. */
    private List<Integer> hindered() {
        List<Integer> cars = new ArrayList<>();
        for (int car : state.storedCars()) {
            int blocker = state.blocker(car);
            if (blocker >= 0 && state.vehicles.get(car).pickup < state.vehicles.get(blocker).pickup) {
                cars.add(car);
            }
        }
        return cars;
    }

    private List<Integer> members(long set) {
        List<Integer> cars = new ArrayList<>();
        for (int bit = 0; bit < 64; bit++) {
            if ((set >>> bit) % 2 != 0) {
                need(state.stored(bit), new IndexOutOfBoundsException());
                cars.add(bit);
            }
        }
        need(!cars.isEmpty(), new IndexOutOfBoundsException());
        need(cars.size() <= 5, new IllegalArgumentException());
        return cars;
    }

    /** Null if the order is impossible. */
    private Order tried(List<Integer> cars) {
        State trial = state.copy();
        int before = trial.works.size();
        for (int car : cars) {
            if (!trial.out(car)) {
                return null;
            }
        }
        int end = 0;
        for (Work work : trial.works.subList(before, trial.works.size())) {
            end = Math.max(end, work.end());
        }
        return new Order(cars, trial.works.size() - before, end);
    }

    private static void permute(List<Integer> head, List<Integer> rest, List<List<Integer>> all) {
        if (rest.isEmpty()) {
            all.add(head);
        }
        for (Integer car : rest) {
            List<Integer> longer = new ArrayList<>(head);
            longer.add(car);
            List<Integer> fewer = new ArrayList<>(rest);
            fewer.remove(car);
            permute(longer, fewer, all);
        }
    }

    private static int lexically(List<Integer> a, List<Integer> b) {
        for (int i = 0; i < a.size(); i++) {
            if (!a.get(i).equals(b.get(i))) {
                return a.get(i) - b.get(i);
            }
        }
        return 0;
    }

    private Order best(List<Integer> cars) {
        List<List<Integer>> all = new ArrayList<>();
        permute(List.of(), cars, all);
        List<Order> possible = new ArrayList<>();
        for (List<Integer> one : all) {
            Order order = tried(one);
            if (order != null) {
                possible.add(order);
            }
        }
        need(!possible.isEmpty(), new NoSuchElementException());
        possible.sort(Comparator.comparing(Order::moves).thenComparing(Order::end)
                .thenComparing((a, b) -> lexically(a.cars(), b.cars())));
        return possible.get(0);
    }

    int bestMoves(long cars) {
        return best(members(cars)).moves();
    }

    int bestEnd(long cars) {
        return best(members(cars)).end();
    }

    int bestCar(long cars, int i) {
        List<Integer> members = members(cars);
        need(i >= 0 && i < members.size(), new IllegalArgumentException());
        return best(members).cars().get(i);
    }

    int plainMoves(long cars) {
        List<Integer> members = members(cars);
        members.sort(Comparator.comparing((Integer car) -> state.vehicles.get(car).pickup).thenComparing(car -> car));
        Order order = tried(members);
        need(order != null, new NoSuchElementException());
        return order.moves();
    }

    int retrieveAll(long cars) {
        Order order = best(members(cars));
        changed(state.copy());
        for (int car : order.cars()) {
            need(state.out(car), new RuntimeException("the best order is possible"));
        }
        return order.end();
    }

    int tidy() {
        changed(state.copy());
        int before = state.moved;
        List<Integer> cars = hindered();
        cars.sort(Comparator.comparing((Integer car) -> state.vehicles.get(car).pickup).thenComparing(car -> car));
        for (int car : cars) {
            if (!hindered().contains(car)) {
                continue;
            }
            int blocker = state.blocker(car);
            Spot refuge = state.refuge(blocker);
            if (refuge != null && !state.bad(refuge, state.vehicles.get(blocker).pickup)) {
                state.move(blocker, refuge);
            }
        }
        return state.moved - before;
    }

    int pass(int minutes) {
        State before = state.copy();
        int now = plainPass(minutes);
        changed(before);
        return now;
    }

    int machine(int machine, int what) {
        need(machine >= 0 && machine <= 3, new IndexOutOfBoundsException());
        needWhat(what, 2);
        Engine e = state.engines.get(machine);
        return new int[] {e.at, e.free, e.sum}[what];
    }

    private List<Work> lastWorks() {
        int size = state.works.size();
        return state.works.subList(Math.max(0, size - 20), size);
    }

    int jobs() {
        return lastWorks().size();
    }

    int job(int i, int what) {
        need(i >= 0 && i < lastWorks().size(), new IndexOutOfBoundsException());
        needWhat(what, 4);
        return lastWorks().get(i).part(what);
    }

    int account(int what) {
        needWhat(what, 5);
        int sum = 0;
        int end = 0;
        int out = 0;
        for (Work work : state.works) {
            sum += work.end() - work.begin();
            end = Math.max(end, work.end());
            out += work.to() == -1 ? 1 : 0;
        }
        return new int[] {state.now, state.vehicles.size(), out, state.moved, sum, end}[what];
    }

    float load(int machine) {
        int free = machine(machine, 1);
        need(free != 0, new ArithmeticException());
        return (float) machine(machine, 2) / (float) free;
    }

    double meanJob() {
        need(!state.works.isEmpty(), new ArithmeticException());
        return (double) account(4) / (double) state.works.size();
    }

    int report(int level, int what) {
        need(level >= 0 && level <= 2 && report != null, new NoSuchElementException());
        needWhat(what, 1);
        return what == 0 ? level + 1 : report[level];
    }

    int feed(char letter) {
        need(buffer.length() < 60, new IllegalStateException());
        buffer += letter;
        return buffer.length();
    }

    private static final String TEXT = "(s[01],[0-9]{1,4};|[rtco][0-9]{1,4};)+";

    /** By trial: the longest start of the text that some ending continues. */
    private static int errorPosition(String text) {
        Matcher matcher = Pattern.compile(TEXT).matcher("");
        for (int length = text.length(); length >= 0; length--) {
            String start = text.substring(0, length);
            matcher.reset(start);
            if (matcher.matches() || matcher.hitEnd()) {
                return length;
            }
        }
        throw new IllegalStateException("an empty start can always be continued");
    }

    int perform() {
        String given = buffer;
        buffer = "";
        if (!given.matches(TEXT)) {
            return -100 - errorPosition(given);
        }
        State before = state.copy();
        String[] commands = given.split(";");
        for (String command : commands) {
            try {
                carryOut(command);
            } catch (RuntimeException e) {
                state = before;
                throw new UnsupportedOperationException();
            }
        }
        changed(before);
        return commands.length;
    }

    private void carryOut(String command) {
        char kind = command.charAt(0);
        if (kind == 's') {
            plainStore(command.charAt(1) - '0', Integer.parseInt(command.substring(3)));
            return;
        }
        int number = Integer.parseInt(command.substring(1));
        if (kind == 'r') {
            plainRetrieve(number);
        } else if (kind == 't') {
            plainPass(number);
        } else {
            plainClose(number, kind == 'c');
        }
    }

    int undo() {
        need(!past.isEmpty(), new IllegalStateException());
        state = past.remove(past.size() - 1);
        return past.size();
    }

    int save() {
        kept = state.copy();
        return state.storedCars().size();
    }

    int restore() {
        need(kept != null, new IllegalStateException());
        state = kept.copy();
        past.clear();
        return state.storedCars().size();
    }
}
