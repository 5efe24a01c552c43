import java.util.function.IntUnaryOperator;

/** Prints every answer that is not the one that is due, and ends a test with exit code 1 if one was. */
final class Due {
    private final boolean quiet;
    private String part = "";
    private int asked;
    private int wrong;

    Due() {
        this(false);
    }

    /** A quiet one counts and prints nothing: for runs in which something is due to be wrong. */
    Due(boolean quiet) {
        this.quiet = quiet;
    }

    void part(String name) {
        part = name;
    }

    void is(String call, int got, int want) {
        asked++;
        if (got != want) {
            fault(call + " answered " + got + ", due is " + want);
        }
    }

    void isTrue(String what, boolean holds) {
        asked++;
        if (!holds) {
            fault(what + " does not hold");
        }
    }

    /** Answers for 0, 1 and on. */
    void first(String call, IntUnaryOperator answers, int... wants) {
        for (int k = 0; k < wants.length; k++) {
            is(call + ", k " + k, answers.applyAsInt(k), wants[k]);
        }
    }

    /** Answers for 0, 1 and on; behind the last one there is NONE. */
    void row(String call, IntUnaryOperator answers, int... wants) {
        first(call, answers, wants);
        is(call + ", k " + wants.length, answers.applyAsInt(wants.length), TwinOrders.NONE);
    }

    private void fault(String what) {
        wrong++;
        if (!quiet) {
            System.out.println(part + ": " + what);
        }
    }

    int asked() {
        return asked;
    }

    int wrong() {
        return wrong;
    }

    void end(String name) {
        System.out.println(name + ": " + asked + " asked, " + wrong + " wrong");
        if (wrong > 0) {
            System.exit(1);
        }
    }
}
