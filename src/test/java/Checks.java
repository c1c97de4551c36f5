import java.util.List;

/** Counts wrong answers of a test; each test's main ends with finish(). */
final class Checks {

    interface Act {
        void run();
    }

    static final Class<? extends Exception> INDEX = IndexOutOfBoundsException.class;
    static final Class<? extends Exception> TURN = IllegalStateException.class;
    static final Class<? extends Exception> RANGE = IllegalArgumentException.class;
    static final Class<? extends Exception> MEANING = UnsupportedOperationException.class;

    private static String sentence = "";
    private static int wrong = 0;

    private Checks() {
    }

    /** Runs the test of one sentence of the document; what is told of it then begins with the sentence. */
    static void sentence(String text, Act test) {
        sentence = "[" + text + "] ";
        try {
            test.run();
        } catch (RuntimeException e) {
            // One sentence's stray refusal must not hide what the tests behind it find.
            tell("threw " + e + " at " + e.getStackTrace()[0]);
        }
        sentence = "";
    }

    static void same(String what, long got, long due) {
        if (got != due) {
            tell(what + " answered " + got + ", due is " + due);
        }
    }

    static void same(String what, boolean got, boolean due) {
        if (got != due) {
            tell(what + " answered " + got + ", due is " + due);
        }
    }

    static void same(String what, List<String> got, List<String> due) {
        for (int i = 0; i < Math.min(got.size(), due.size()); i++) {
            if (!got.get(i).equals(due.get(i))) {
                tell(what + ": " + got.get(i) + ", due is " + due.get(i));
                return;
            }
        }
        same(what + ", lines", got.size(), due.size());
    }

    static void refused(String what, Class<? extends Exception> due, Act act) {
        try {
            act.run();
            tell(what + " was not refused, due is " + due.getSimpleName());
        } catch (RuntimeException e) {
            // Exactly this class: the machine's own exceptions lie below some of these.
            if (e.getClass() != due) {
                tell(what + " threw " + e.getClass().getSimpleName() + ", due is " + due.getSimpleName());
            }
        }
    }

    static void tell(String text) {
        wrong++;
        if (wrong <= 40) {
            System.out.println(sentence + text);
        }
    }

    static void finish() {
        if (wrong != 0) {
            System.out.println(wrong + " wrong");
            System.exit(1);
        }
    }
}
