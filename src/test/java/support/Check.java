import java.util.function.LongSupplier;

/** Counts answers that are not due, prints each, and ends the test with exit code 1 if there was one. */
final class Check {
    private static int wrong = 0;
    private static int done = 0;

    private Check() {}

    static void due(String what, long got, long due) {
        done++;
        if (got != due) {
            wrong++;
            System.out.println(what + " answered " + got + ", due is " + due);
        }
    }

    /** The call answers this. */
    static void answers(String what, long due, LongSupplier call) {
        long got;
        try {
            got = call.getAsLong();
        } catch (RuntimeException e) {
            done++;
            wrong++;
            System.out.println(what + " threw " + e + ", due is " + due);
            return;
        }
        due(what, got, due);
    }

    /** The call throws this very class: what the machine itself throws are classes below or beside it. */
    static void refuses(String what, Class<? extends RuntimeException> due, Runnable call) {
        done++;
        String got = "nothing";
        try {
            call.run();
        } catch (RuntimeException e) {
            if (e.getClass() == due) {
                return;
            }
            got = e.toString();
        }
        wrong++;
        System.out.println(what + " threw " + got + ", due is " + due.getSimpleName());
    }

    static void finish() {
        System.out.println(done + " answers looked at, " + wrong + " wrong");
        System.exit(wrong == 0 && done > 0 ? 0 : 1);
    }
}
