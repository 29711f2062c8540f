import java.util.NoSuchElementException;

/** Compares answers with those that are due, and ends a test. */
final class Checks {
    /** A call of the class; a method that answers a boolean is asked through {@link #bit}. */
    interface Call {
        long answer();
    }

    private final String test;
    private int made;
    private int wrong;

    Checks(String test) {
        this.test = test;
    }

    static long bit(boolean answer) {
        return answer ? 1 : 0;
    }

    void due(String what, long want, long got) {
        made++;
        if (got != want) {
            wrong++;
            System.out.println(test + ": " + what + ": due is " + want + ", got " + got);
        }
    }

    void due(String what, boolean want, boolean got) {
        due(what, bit(want), bit(got));
    }

    void dueText(String what, String want, String got) {
        made++;
        if (!want.equals(got)) {
            wrong++;
            System.out.println(test + ": " + what + ": due is " + want + ", got " + got);
        }
    }

    void dueExactly(String what, double want, double got) {
        dueText(what, Double.toString(want), Double.toString(got));
    }

    void noIndex(String what, Call call) {
        dueText(what, IndexOutOfBoundsException.class.getName(), outcome(call));
    }

    void noElement(String what, Call call) {
        dueText(what, NoSuchElementException.class.getName(), outcome(call));
    }

    void badArgument(String what, Call call) {
        dueText(what, IllegalArgumentException.class.getName(), outcome(call));
    }

    void badState(String what, Call call) {
        dueText(what, IllegalStateException.class.getName(), outcome(call));
    }

    void badArithmetic(String what, Call call) {
        dueText(what, ArithmeticException.class.getName(), outcome(call));
    }

    /** Both calls answer the same, or throw the same exception. */
    void alike(String what, Call want, Call got) {
        dueText(what, outcome(want), outcome(got));
    }

    /** The call is rejected with this reason and this detail. */
    void rejected(String what, HabitRegistry registry, int reason, int detail, Call call) {
        dueText(what, UnsupportedOperationException.class.getName(), outcome(call));
        due(what + ", reason", reason, registry.rejectionReason());
        due(what + ", detail", detail, registry.rejectionDetail());
    }

    private static String outcome(Call call) {
        try {
            return "answer " + call.answer();
        } catch (RuntimeException thrown) {
            return thrown.getClass().getName();
        }
    }

    void end() {
        System.out.println(test + ": " + made + " checks, " + wrong + " wrong");
        if (wrong != 0 || made == 0) {
            System.exit(1);
        }
    }

    /** Reads the output of a registry, sign by sign. */
    static String output(HabitRegistry registry, int length) {
        StringBuilder text = new StringBuilder();
        for (int index = 0; index < length; index++) {
            text.append(registry.outputAt(index));
        }
        return text.toString();
    }

    static void append(HabitRegistry registry, String text) {
        for (int index = 0; index < text.length(); index++) {
            registry.appendInput(text.charAt(index));
        }
    }

    /** Appends a text to the input and executes it. */
    static int execute(HabitRegistry registry, String text) {
        append(registry, text);
        return registry.execute();
    }

    /** A registry on which a text of commands was executed. */
    static HabitRegistry after(String text) {
        HabitRegistry registry = new HabitRegistry();
        execute(registry, text);
        return registry;
    }

    /** All data of a registry that the face shows, but for the input, the output, rejections and syntax errors. */
    static String data(HabitRegistry registry) {
        StringBuilder text = new StringBuilder();
        for (int person = 0; person < registry.peopleCount(); person++) {
            text.append(registry.isFounder(person) ? -1 : registry.parentOf(person));
            text.append(registry.isAlive(person) ? " " : "+ ");
        }
        for (int habit = 0; habit < registry.habitCount(); habit++) {
            text.append(registry.isExtinct(habit) ? -1 : registry.holderOf(habit));
            text.append(registry.kindOf(habit)).append(registry.strengthOf(habit));
            text.append(registry.isEntailed(habit) ? "!" : "").append(registry.isPractised(habit) ? "* " : " ");
        }
        text.append(registry.year()).append(' ').append(registry.lapsedCount()).append(' ');
        text.append(registry.mergedCount()).append(' ').append(registry.brokenCount());
        return text.toString();
    }

    /** Where all people stand in the orders of succession of their families. */
    static String positions(HabitRegistry registry) {
        StringBuilder text = new StringBuilder();
        for (int person = 0; person < registry.peopleCount(); person++) {
            text.append(registry.successionPosition(person)).append(' ').append(registry.generation(person)).append(' ');
        }
        return text.toString();
    }
}
