/** Compares answers with those that are due; finish() ends the test, with exit code 1 if one was wrong. */
final class Expect {
    /** A call of the hall. */
    interface Call {
        void run();
    }

    static final Class<?> OUTSIDE = IndexOutOfBoundsException.class;
    static final Class<?> ARGUMENT = IllegalArgumentException.class;
    static final Class<?> STATE = IllegalStateException.class;
    static final Class<?> NO_ELEMENT = java.util.NoSuchElementException.class;
    static final Class<?> ARITHMETIC = ArithmeticException.class;

    private final String test;
    private int checks = 0;
    private int wrong = 0;

    Expect(String test) {
        this.test = test;
    }

    void equal(String what, double got, double due) {
        checks++;
        if (got != due) {
            report(what + " answered " + got + ", due is " + due);
        }
    }

    /** The exception must be of just this class: the machine's own ones are of classes below it. */
    void fails(String what, Class<?> due, Call call) {
        checks++;
        Class<?> got = thrownBy(call);
        if (got != due) {
            report(what + " threw " + got + ", due is " + due);
        }
    }

    static Class<?> thrownBy(Call call) {
        try {
            call.run();
        } catch (RuntimeException thrown) {
            return thrown.getClass();
        }
        return null;
    }

    void report(String what) {
        wrong++;
        System.out.println(test + ": " + what);
    }

    void finish() {
        System.out.println(test + ": " + checks + " checks, " + wrong + " wrong");
        if (wrong != 0) {
            System.exit(1);
        }
    }
}
