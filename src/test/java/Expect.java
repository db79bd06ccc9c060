/** Counts and prints the answers that are not as due, for the tests beside it. */
final class Expect {
    private static int wrong = 0;

    private Expect() {
    }

    /** A call that may throw. */
    interface Call {
        long answer();
    }

    /** A call without an answer that may throw. */
    interface Act {
        void go();
    }

    static void same(String what, long got, long due) {
        if (got != due) {
            fail(what + " answered " + got + ", due is " + due);
        }
    }

    static void same(String what, String got, String due) {
        if (!got.equals(due)) {
            fail(what + " answered " + got + ", due is " + due);
        }
    }

    static void that(String what, boolean holds) {
        if (!holds) {
            fail(what + " does not hold");
        }
    }

    static void outOfBounds(String what, Act act) {
        same(what, outcome(act), "throws.IndexOutOfBoundsException");
    }

    static void badArgument(String what, Act act) {
        same(what, outcome(act), "throws.IllegalArgumentException");
    }

    static void badState(String what, Act act) {
        same(what, outcome(act), "throws.IllegalStateException");
    }

    static void noElement(String what, Act act) {
        same(what, outcome(act), "throws.NoSuchElementException");
    }

    static String outcome(Act act) {
        return answer(() -> {
            act.go();
            return 0;
        });
    }

    /** The answer as a text, or the exact class that was thrown. */
    static String answer(Call call) {
        try {
            return Long.toString(call.answer());
        } catch (RuntimeException e) {
            return "throws." + e.getClass().getSimpleName();
        }
    }

    /** Some of the many values on either side of lowest .. highest. */
    static int[] outside(int lowest, int highest) {
        return new int[] {lowest - 1, highest + 1, Integer.MIN_VALUE, Integer.MAX_VALUE};
    }

    static void fail(String text) {
        wrong++;
        if (wrong <= 50) {
            System.out.println(text);
        }
    }

    static void end() {
        System.out.println(wrong == 0 ? "all as due" : wrong + " not as due");
        if (wrong != 0) {
            System.exit(1);
        }
    }
}
