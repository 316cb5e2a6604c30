import java.util.NoSuchElementException;

/** Compares answers with those that are due, and remembers whether one was wrong. */
final class Check {
    /** What stands for an exception among the answers: beyond every int and every sum of a test. */
    static final long NO_SUCH_ELEMENT = Long.MAX_VALUE;
    static final long OUT_OF_BOUNDS = Long.MAX_VALUE - 1;
    static final long OTHER_EXCEPTION = Long.MAX_VALUE - 2;

    private static final int MOST_SHOWN = 40;
    private static int wrong = 0;

    private Check() {
    }

    interface Call {
        long answer();
    }

    interface TextCall {
        String answer();
    }

    static long answerOf(Call call) {
        try {
            return call.answer();
        } catch (RuntimeException e) {
            if (e.getClass() == NoSuchElementException.class) {
                return NO_SUCH_ELEMENT;
            }
            return e.getClass() == IndexOutOfBoundsException.class ? OUT_OF_BOUNDS : OTHER_EXCEPTION;
        }
    }

    static void same(String what, long want, Call call) {
        same(what, want, answerOf(call));
    }

    static void same(String what, long want, long got) {
        if (got != want) {
            show(what + ": answered " + shown(got) + ", due is " + shown(want));
        }
    }

    static void text(String what, String want, TextCall call) {
        String got;
        try {
            got = call.answer();
        } catch (RuntimeException e) {
            got = "throws." + e.getClass().getSimpleName();
        }
        if (!got.equals(want)) {
            show(what + ": answered " + got + ", due is " + want);
        }
    }

    static void holds(String what, boolean condition) {
        same(what, 1, condition ? 1 : 0);
    }

    /** Ends the test, with exit code 1 if an answer was wrong. */
    static void end() {
        System.out.println(wrong == 0 ? "all answers are as due" : wrong + " answers are not as due");
        if (wrong != 0) {
            System.exit(1);
        }
    }

    private static void show(String fault) {
        wrong++;
        if (wrong <= MOST_SHOWN) {
            System.out.println(fault);
        }
    }

    private static String shown(long answer) {
        if (answer == NO_SUCH_ELEMENT) {
            return "throws.NoSuchElementException";
        }
        if (answer == OUT_OF_BOUNDS) {
            return "throws.IndexOutOfBoundsException";
        }
        return answer == OTHER_EXCEPTION ? "throws another exception" : Long.toString(answer);
    }
}
