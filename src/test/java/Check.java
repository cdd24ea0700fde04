import java.util.function.IntSupplier;

/** Counts answers that are not as due; an exception counts by its exact class. */
final class Check {
    private int wrong = 0;
    private int asked = 0;

    void due(String call, int got, int want) {
        asked++;
        if (got != want) {
            tell(call, "answered " + got + ", due is " + want);
        }
    }

    void due(String call, boolean got, boolean want) {
        due(call, got ? 1 : 0, want ? 1 : 0);
    }

    void dueText(String call, String got, String want) {
        asked++;
        if (!got.equals(want)) {
            tell(call, "answered " + got + ", due is " + want);
        }
    }

    /** The call must throw just this class: one of the machine's own below it is wrong too. */
    void dueThrow(String call, Class<? extends RuntimeException> want, IntSupplier run) {
        dueText(call, outcome(run), "throws." + want.getSimpleName());
    }

    static String outcome(IntSupplier run) {
        try {
            return Integer.toString(run.getAsInt());
        } catch (RuntimeException e) {
            return "throws." + e.getClass().getSimpleName();
        }
    }

    boolean hasWrong() {
        return wrong > 0;
    }

    void end() {
        System.out.println(asked + " answers, " + wrong + " not as due");
        if (wrong != 0) {
            System.exit(1);
        }
    }

    private void tell(String call, String what) {
        wrong++;
        System.out.println(call + " " + what);
    }
}
