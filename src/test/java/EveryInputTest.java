/**
 * Promises 54 and 55: all inputs of up to five characters of those that the commands are made of, executed on a
 * HabitRegistry and on a Model.
 */
public final class EveryInputTest {
    private static final Checks CHECKS = new Checks("EveryInputTest");

    /** The letters c, n, e and k are read as b and p are; d and h as s; other digits as 0 and 7. */
    private static final String SIGNS = "fbpagys07>; ";
    private static final int LENGTH = 5;

    /** A registry answers as promised for 512 calls, and an input takes at most eleven. */
    private static final int INPUTS = 40;

    private static HabitRegistry registry;
    private static Model model;
    private static int inputs = INPUTS;

    public static void main(String[] arguments) {
        lengthen("");
        CHECKS.end();
    }

    private static void lengthen(String input) {
        execute(input);
        if (input.length() < LENGTH) {
            for (int sign = 0; sign < SIGNS.length(); sign++) {
                lengthen(input + SIGNS.charAt(sign));
            }
        }
    }

    private static void execute(String input) {
        if (inputs == INPUTS) {
            begin();
        }
        inputs++;
        for (int index = 0; index < input.length(); index++) {
            registry.appendInput(input.charAt(index));
            model.appendInput(input.charAt(index));
        }
        CHECKS.alike("'" + input + "'", model::execute, registry::execute);
        CHECKS.alike("offset behind '" + input + "'", model::syntaxErrorOffset, registry::syntaxErrorOffset);
        CHECKS.alike("reason behind '" + input + "'", model::rejectionReason, registry::rejectionReason);
        CHECKS.alike("detail behind '" + input + "'", model::rejectionDetail, registry::rejectionDetail);
        CHECKS.due("changes behind '" + input + "'", model.undoCount(), registry.undoCount());
        CHECKS.due("people behind '" + input + "'", model.peopleCount(), registry.peopleCount());
    }

    private static void begin() {
        registry = new HabitRegistry();
        model = new Model();
        registry.addFounder();
        model.addFounder();
        registry.addHabit(0, 'd', 5);
        model.addHabit(0, 'd', 5);
        inputs = 0;
    }
}
