import java.util.NoSuchElementException;

/** Counts answers that are as due and tells those that are not. */
final class Check {
    static final Class<IndexOutOfBoundsException> INDEX = IndexOutOfBoundsException.class;
    static final Class<IllegalArgumentException> ARGUMENT = IllegalArgumentException.class;
    static final Class<IllegalStateException> STATE = IllegalStateException.class;
    static final Class<NoSuchElementException> ELEMENT = NoSuchElementException.class;

    /** A call whose exception is looked at. */
    interface Call {
        void run();
    }

    private int passed = 0;
    private int failed = 0;

    void due(String what, long want, long got) {
        if (want == got) {
            passed++;
        } else {
            failed++;
            System.out.println(what + " answered " + got + ", due is " + want);
        }
    }

    void due(String what, String want, String got) {
        if (want.equals(got)) {
            passed++;
        } else {
            failed++;
            System.out.println(what + " answered <" + got + ">, due is <" + want + ">");
        }
    }

    void due(String what, boolean want, boolean got) {
        due(what, want ? 1 : 0, got ? 1 : 0);
    }

    /** The exception must be of this very class, as the machine's own are of classes below it. */
    void dueThrow(String what, Class<? extends RuntimeException> want, Call call) {
        String got = "nothing";
        try {
            call.run();
        } catch (RuntimeException e) {
            got = e.getClass().getName();
        }
        due(what + " throws", want.getName(), got);
    }

    /** Prints the sum, and ends the program with exit code 1 if something was wrong. */
    void end() {
        System.out.println(passed + " passed, " + failed + " failed");
        if (failed > 0 || passed == 0) {
            System.exit(1);
        }
    }
}
