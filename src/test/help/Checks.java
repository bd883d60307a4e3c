import java.util.function.IntSupplier;

/** What every test is made of: it compares answers with what is due, and counts those that are wrong. */
abstract class Checks {
    static final String STATE = "IllegalStateException";
    static final String ARGUMENT = "IllegalArgumentException";
    static final String ELEMENT = "NoSuchElementException";
    static final String INDEX = "IndexOutOfBoundsException";

    private static int wrong = 0;
    private static int checked = 0;
    private static String sentence = "";

    /** What the document says that the next checks are about. */
    static void says(String words) {
        sentence = words;
    }

    static void due(String what, int got, int want) {
        due(what, String.valueOf(got), String.valueOf(want));
    }

    static void due(String what, String got, String want) {
        checked++;
        if (!got.equals(want)) {
            wrong++;
            System.out.println(sentence + ": " + what + " answered " + got + ", due is " + want);
        }
    }

    static void holds(String what, boolean is) {
        due(what, String.valueOf(is), "true");
    }

    static void dueThrow(String what, IntSupplier call, String want) {
        due(what, answerOf(call), want);
    }

    /** The answer, or the name of what was thrown. */
    static String answerOf(IntSupplier call) {
        try {
            return String.valueOf(call.getAsInt());
        } catch (RuntimeException e) {
            return e.getClass().getSimpleName();
        }
    }

    static String times(String text, int n) {
        return text.repeat(Math.max(0, n));
    }

    /** The FAULT of a TEXT, 0 if there is none, and its place. */
    static void fault(String text, int kind, int place) {
        fault(CountedProver.fed(text), text, kind, place);
    }

    /** The same where the TEXT is on the TAPE already. */
    static void fault(CountedProver p, String text, int kind, int place) {
        String name = text.length() > 70 ? text.substring(0, 70) + ".." : text;
        int answer = p.read();
        due("read of " + name, answer < 0 ? -1 : 0, kind == 0 ? 0 : -1);
        due("fault(0) of " + name, p.fault(0), kind);
        due("fault(1) of " + name, p.fault(1), place);
        if (kind != 0) {
            due("CLAUSES of " + name, p.count(0), 0);
            due("SYMBOLS of " + name, p.count(11), 1);
            due("the state of " + name, p.count(10), 0);
        }
        due("the TAPE behind " + name, p.count(12), 0);
    }

    /** Ends the test: exit code 1 if an answer was wrong, or if there was none at all. */
    static void finish() {
        System.out.println(checked + " answers were looked at, " + wrong + " are wrong");
        System.exit(wrong == 0 && checked > 0 ? 0 : 1);
    }
}
