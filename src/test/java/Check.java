import java.util.Objects;

/** Counts answers that are not as due; a test ends with exit code 1 if there was one. */
final class Check {
    private static final int NOTE_LIMIT = 50;

    private int asked = 0;
    private int wrong = 0;

    void same(String what, Object got, Object due) {
        asked++;
        if (!Objects.equals(got, due)) {
            wrong++;
            if (wrong <= NOTE_LIMIT) {
                System.out.println(what + " answered " + got + ", due is " + due);
            }
        }
    }

    void thrown(String what, Class<? extends RuntimeException> due, Runnable call) {
        same(what, nameOfThrown(call), due.getSimpleName());
    }

    private static String nameOfThrown(Runnable call) {
        try {
            call.run();
            return "nothing thrown";
        } catch (RuntimeException e) {
            return nameOf(e);
        }
    }

    /** An exception counts only where a throw of the class threw it, not the machine or its library. */
    static String nameOf(RuntimeException e) {
        StackTraceElement[] trace = e.getStackTrace();
        boolean own = trace.length > 0 && trace[0].getClassName().startsWith("CiteLists");
        return own ? e.getClass().getSimpleName() : e.getClass().getSimpleName() + " of the machine";
    }

    void end() {
        System.out.println(asked + " answers, " + wrong + " not as due");
        if (wrong != 0) {
            System.exit(1);
        }
    }
}
