import java.util.function.Supplier;

/** Counts the answers that are not the ones that are due, and ends a test by them. */
final class Check {
    private final String test;
    private String sentence = "";
    private int made = 0;
    private int wrong = 0;

    Check(String test) {
        this.test = test;
    }

    void equal(String call, Object due, Object got) {
        made++;
        if (!due.equals(got)) {
            wrong++;
            System.out.println(test + ": " + sentence + call + " answered " + got + ", due is " + due);
        }
    }

    /** The test of one sentence of the document; one that asks nothing or breaks off counts as wrong. */
    void sentence(String words, Runnable sentenceTest) {
        sentence = "\"" + words + "\": ";
        int before = made;
        try {
            sentenceTest.run();
        } catch (RuntimeException | AssertionError e) {
            equal("the sentence's test", "an end", "with " + e);
        }
        if (made == before) {
            equal("the sentence's test", "some answers", "none");
        }
        sentence = "";
    }

    /** What a call answers, or the name of what it throws. */
    static Object answer(Supplier<Object> call) {
        try {
            return call.get();
        } catch (RuntimeException e) {
            return e.getClass().getSimpleName();
        }
    }

    void illegalArgument(String call, Supplier<Object> made) {
        equal(call, "IllegalArgumentException", answer(made));
    }

    void illegalState(String call, Supplier<Object> made) {
        equal(call, "IllegalStateException", answer(made));
    }

    void outOfBounds(String call, Supplier<Object> made) {
        equal(call, "IndexOutOfBoundsException", answer(made));
    }

    boolean allRight() {
        return wrong == 0;
    }

    void end() {
        System.out.println(test + ": " + made + " answers, " + wrong + " not as due");
        if (wrong != 0 || made == 0) {
            System.exit(1);
        }
    }
}
