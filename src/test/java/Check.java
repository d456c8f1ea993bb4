/** Counts and prints the answers of a test that are not as due. */
final class Check {
    /** A call of the face, whose answer is a number. */
    interface Call {
        long answer();
    }

    static final long OUT_OF_BOUNDS = Long.MIN_VALUE + 1;
    static final long ILLEGAL_ARGUMENT = Long.MIN_VALUE + 2;
    static final long ILLEGAL_STATE = Long.MIN_VALUE + 3;
    static final long OTHER = Long.MIN_VALUE + 4;
    /** What is less stands for an exception. */
    static final long LEAST_ANSWER = Integer.MIN_VALUE;

    private int checked;
    private int wrong;

    /** The answer of a call, or a number that stands for the exception that it throws. */
    static long outcome(Call call) {
        try {
            return call.answer();
        } catch (RuntimeException e) {
            if (e.getClass() == IndexOutOfBoundsException.class) {
                return OUT_OF_BOUNDS;
            }
            if (e.getClass() == IllegalArgumentException.class) {
                return ILLEGAL_ARGUMENT;
            }
            return e.getClass() == IllegalStateException.class ? ILLEGAL_STATE : OTHER;
        }
    }

    static String name(long outcome) {
        if (outcome == OUT_OF_BOUNDS) {
            return "IndexOutOfBoundsException";
        }
        if (outcome == ILLEGAL_ARGUMENT) {
            return "IllegalArgumentException";
        }
        if (outcome == ILLEGAL_STATE) {
            return "IllegalStateException";
        }
        return outcome == OTHER ? "another exception" : Long.toString(outcome);
    }

    void is(String what, long want, Call call) {
        same(what, want, outcome(call));
    }

    void noPlace(String what, Call call) {
        is(what, OUT_OF_BOUNDS, call);
    }

    void badArgument(String what, Call call) {
        is(what, ILLEGAL_ARGUMENT, call);
    }

    void notNow(String what, Call call) {
        is(what, ILLEGAL_STATE, call);
    }

    void same(String what, long want, long got) {
        checked++;
        if (want != got) {
            wrong++;
            if (wrong <= 40) {
                System.out.println(what + " answered " + name(got) + ", due is " + name(want));
            }
        }
    }

    boolean hasFault() {
        return wrong > 0;
    }

    /** Says how it went, and ends the program with 1 if an answer was wrong. */
    void close() {
        System.out.println(checked + " answers, " + wrong + " not as due");
        if (wrong > 0) {
            System.exit(1);
        }
    }
}
