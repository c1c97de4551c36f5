/** Counts wrong answers of a test; each test's main ends with finish(). */
final class Checks {

    interface Act {
        void run();
    }

    static final Class<? extends Exception> INDEX = IndexOutOfBoundsException.class;
    static final Class<? extends Exception> TURN = IllegalStateException.class;
    static final Class<? extends Exception> RANGE = IllegalArgumentException.class;
    static final Class<? extends Exception> MEANING = UnsupportedOperationException.class;

    private static int wrong = 0;

    private Checks() {
    }

    static void same(String what, long got, long due) {
        if (got != due) {
            tell(what + " answered " + got + ", due is " + due);
        }
    }

    static void same(String what, boolean got, boolean due) {
        if (got != due) {
            tell(what + " answered " + got + ", due is " + due);
        }
    }

    static void refused(String what, Class<? extends Exception> due, Act act) {
        try {
            act.run();
            tell(what + " was not refused, due is " + due.getSimpleName());
        } catch (RuntimeException e) {
            // Exactly this class: the machine's own exceptions lie below some of these.
            if (e.getClass() != due) {
                tell(what + " threw " + e.getClass().getSimpleName() + ", due is " + due.getSimpleName());
            }
        }
    }

    static void tell(String text) {
        wrong++;
        if (wrong <= 40) {
            System.out.println(text);
        }
    }

    static void finish() {
        if (wrong != 0) {
            System.out.println(wrong + " wrong");
            System.exit(1);
        }
    }
}
