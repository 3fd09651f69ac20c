import java.util.concurrent.Callable;
import java.util.function.Function;
import java.util.function.Supplier;

/** Counts what is as due and prints what is not. */
final class Checks {
    private int passed;
    private int failed;
    private String part = "";

    void part(String name) {
        part = name;
    }

    void due(String call, Object got, Object want) {
        if (got.equals(want)) {
            passed++;
            return;
        }
        failed++;
        System.out.println(part + ": " + call + " answered " + got + ", due is " + want);
    }

    void due(String call, Callable<?> got, Object want) {
        due(call, (Object) answer(got), String.valueOf(want));
    }

    /** The class of the exception must be the very one that the document names. */
    void refused(String call, Class<? extends Exception> want, Callable<?> got) {
        due(call, (Object) answer(got), want.getSimpleName());
    }

    /** After the call, all that can be asked of the robot is as of one that was not called. */
    void leavesAlone(String call, Supplier<ParkingRobot> make, Function<ParkingRobot, Object> act, Object want) {
        ParkingRobot called = make.get();
        due(call, () -> act.apply(called), want);
        due("what there is after " + call, (Object) Sight.rest(called), Sight.rest(make.get()));
    }

    void leavesAlone(String call, Class<? extends Exception> want, Supplier<ParkingRobot> make,
            Function<ParkingRobot, Object> act) {
        leavesAlone(call, make, act, want.getSimpleName());
    }

    /** The car, from where, to where, the beginning and the end. */
    void job(ParkingRobot x, int i, int... parts) {
        for (int what = 0; what < 5; what++) {
            due("job(" + i + ", " + what + ")", x.job(i, what), parts[what]);
        }
    }

    /** Where it is, from when it is free, and its minutes. */
    void machine(ParkingRobot x, int machine, int... numbers) {
        for (int what = 0; what < 3; what++) {
            due("machine(" + machine + ", " + what + ")", x.machine(machine, what), numbers[what]);
        }
    }

    void reported(ParkingRobot x, int... details) {
        for (int level = 0; level < 3; level++) {
            due("report(" + level + ", 0)", x.report(level, 0), level + 1);
            due("report(" + level + ", 1)", x.report(level, 1), details[level]);
        }
    }

    void performed(ParkingRobot x, String text, int want) {
        type(x, text);
        due("perform " + text, x::perform, want);
    }

    void notPerformed(ParkingRobot x, String text) {
        type(x, text);
        refused("perform " + text, UnsupportedOperationException.class, x::perform);
        due("the buffer is empty", x.perform(), -100);
    }

    static void type(ParkingRobot x, String text) {
        for (char letter : text.toCharArray()) {
            x.feed(letter);
        }
    }

    static String answer(Callable<?> call) {
        try {
            return String.valueOf(call.call());
        } catch (Exception e) {
            return e.getClass().getSimpleName();
        }
    }

    int failed() {
        return failed;
    }

    void finish(String name) {
        System.out.println(name + ": " + passed + " checks passed, " + failed + " failed");
        if (failed != 0) {
            System.exit(1);
        }
    }
}
