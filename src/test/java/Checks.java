import java.util.concurrent.Callable;

/** Counts what is as due and prints what is not. */
final class Checks {
    private int passed;
    private int failed;
    private String part = "";

    void part(String name) {
        part = name;
    }

    void due(String call, Object got, Object want) {
        if (got.equals(want)) {
            passed++;
            return;
        }
        failed++;
        System.out.println(part + ": " + call + " answered " + got + ", due is " + want);
    }

    void due(String call, Callable<?> got, Object want) {
        due(call, (Object) answer(got), String.valueOf(want));
    }

    /** The class of the exception must be the very one that the document names. */
    void refused(String call, Class<? extends Exception> want, Callable<?> got) {
        due(call, (Object) answer(got), want.getSimpleName());
    }

    static String answer(Callable<?> call) {
        try {
            return String.valueOf(call.call());
        } catch (Exception e) {
            return e.getClass().getSimpleName();
        }
    }

    int failed() {
        return failed;
    }

    void finish(String name) {
        System.out.println(name + ": " + passed + " checks passed, " + failed + " failed");
        if (failed != 0) {
            System.exit(1);
        }
    }
}
