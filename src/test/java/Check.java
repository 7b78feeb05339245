import java.util.function.Supplier;

/** Counts the answers that are not the ones that are due, and ends a test by them. */
final class Check {
    private final String test;
    private int made = 0;
    private int wrong = 0;

    Check(String test) {
        this.test = test;
    }

    void equal(String call, Object due, Object got) {
        made++;
        if (!due.equals(got)) {
            wrong++;
            System.out.println(test + ": " + call + " answered " + got + ", due is " + due);
        }
    }

    /** What a call answers, or the name of what it throws. */
    static Object answer(Supplier<Object> call) {
        try {
            return call.get();
        } catch (RuntimeException e) {
            return e.getClass().getSimpleName();
        }
    }

    void illegalArgument(String call, Supplier<Object> made) {
        equal(call, "IllegalArgumentException", answer(made));
    }

    void illegalState(String call, Supplier<Object> made) {
        equal(call, "IllegalStateException", answer(made));
    }

    void outOfBounds(String call, Supplier<Object> made) {
        equal(call, "IndexOutOfBoundsException", answer(made));
    }

    boolean allRight() {
        return wrong == 0;
    }

    void end() {
        System.out.println(test + ": " + made + " answers, " + wrong + " not as due");
        if (wrong != 0 || made == 0) {
            System.exit(1);
        }
    }
}
