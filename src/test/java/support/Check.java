import java.util.function.LongSupplier;

/** Counts answers that are not due, prints each, and ends the test with exit code 1 if there was one. */
final class Check {
    private static int wrong = 0;
    private static int done = 0;
    private static int sentences = 0;
    private static String sentence = "";
    private static int doneBefore = 0;

    private Check() {}

    /** What is looked at from here on is asked by these words of the document. */
    static void sentence(String words) {
        closeSentence();
        sentences++;
        sentence = words;
        doneBefore = done;
    }

    private static void closeSentence() {
        if (!sentence.isEmpty() && done == doneBefore) {
            tellWrong("nothing", "was looked at");
        }
        sentence = "";
    }

    private static void tellWrong(String what, String told) {
        wrong++;
        String before = sentence.isEmpty() ? "" : "\"" + sentence + "\": ";
        System.out.println(before + what + " " + told);
    }

    static void due(String what, long got, long due) {
        done++;
        if (got != due) {
            tellWrong(what, "answered " + got + ", due is " + due);
        }
    }

    /** The call answers this. */
    static void answers(String what, long due, LongSupplier call) {
        long got;
        try {
            got = call.getAsLong();
        } catch (RuntimeException e) {
            done++;
            tellWrong(what, "threw " + e + ", due is " + due);
            return;
        }
        due(what, got, due);
    }

    /** The call throws this very class: what the machine itself throws are classes below or beside it. */
    static void refuses(String what, Class<? extends RuntimeException> due, Runnable call) {
        done++;
        String got = "nothing";
        try {
            call.run();
        } catch (RuntimeException e) {
            if (e.getClass() == due) {
                return;
            }
            got = e.toString();
        }
        tellWrong(what, "threw " + got + ", due is " + due.getSimpleName());
    }

    static void finish() {
        closeSentence();
        String of = sentences == 0 ? "" : " for " + sentences + " sentences";
        System.out.println(done + " answers looked at" + of + ", " + wrong + " wrong");
        System.exit(wrong == 0 && done > 0 ? 0 : 1);
    }
}
