import java.util.NoSuchElementException;

/**
 * Calls that throw, each made on one of two registries with the same past: the call throws what is due, and from then
 * on both go on alike, but for what the document lets such a call change.
 */
final class Edges {
    static final Class<IndexOutOfBoundsException> INDEX = IndexOutOfBoundsException.class;
    static final Class<IllegalArgumentException> ARGUMENT = IllegalArgumentException.class;
    static final Class<NoSuchElementException> ELEMENT = NoSuchElementException.class;
    static final Class<IllegalStateException> STATE = IllegalStateException.class;
    static final Class<ArithmeticException> ARITHMETIC = ArithmeticException.class;
    static final Class<UnsupportedOperationException> REJECTED = UnsupportedOperationException.class;

    /** Makes a registry; the same calls each time. */
    interface Past {
        HabitRegistry lived();
    }

    interface Call {
        Object on(HabitRegistry registry);
    }

    interface IndexCall {
        Object on(HabitRegistry registry, int index);
    }

    private final Checks checks;

    Edges(Checks checks) {
        this.checks = checks;
    }

    /**
     * Nine people: 0 to 4 are a line of parent and child, 5 is the second child of 0, 6 and 7 are founders, 8 is a
     * child of 5; 7 and 8 are dead. Seven habits: 0, 2 of person 0 ('d' and, entailed and practised, 's'), 1 of person
     * 1 ('d', with strength 9), 3 is extinct, 4, 5 and 6 of the people 4 ('d'), 6 ('d') and 5 ('s'). There are more
     * than eight changes, a snapshot of the people 0 to 5 and habit 0, an output, the beginning of an input, a syntax
     * error and a rejected command.
     */
    static HabitRegistry lived() {
        HabitRegistry registry = new HabitRegistry();
        registry.addFounder();
        for (int parent = 0; parent < 4; parent++) {
            registry.addChild(parent);
        }
        registry.addChild(0);
        registry.addHabit(0, 'd', 5);
        registry.saveSnapshot();
        registry.addFounder();
        registry.addFounder();
        registry.addChild(5);
        registry.addHabit(1, 'd', 9);
        registry.addHabit(0, 's', 2);
        registry.addHabit(0, 'h', 1);
        registry.addHabit(4, 'd', 1);
        registry.addHabit(6, 'd', 2);
        registry.addHabit(5, 's', 4);
        registry.entail(2);
        registry.neglect(3);
        registry.bury(8);
        registry.bury(7);
        registry.practise(2);
        outcome(registry, other -> Checks.execute(other, "f;;"));
        outcome(registry, other -> Checks.execute(other, "n0;b7"));
        registry.writeLine(2);
        Checks.append(registry, "y1;y");
        return registry;
    }

    /** The same registry with an empty input, for calls that execute a text. */
    static HabitRegistry livedWithoutInput() {
        HabitRegistry registry = lived();
        outcome(registry, HabitRegistry::execute);
        outcome(registry, other -> Checks.execute(other, "f;;"));
        return registry;
    }

    static HabitRegistry unborn() {
        return new HabitRegistry();
    }

    /** Sixteen people: 0 to 14 are founders, 0 is dead, 15 is a child of 14. One habit, a 'd' of person 14. */
    static HabitRegistry fullOfPeople() {
        HabitRegistry registry = new HabitRegistry();
        for (int founder = 0; founder < 15; founder++) {
            registry.addFounder();
        }
        registry.bury(0);
        registry.addHabit(14, 'd', 2);
        registry.addChild(14);
        return registry;
    }

    /** Twenty habits, the last one alone not extinct: a 'd' of person 0. Person 1 is dead. */
    static HabitRegistry fullOfHabits() {
        HabitRegistry registry = new HabitRegistry();
        registry.addFounder();
        registry.addFounder();
        registry.bury(1);
        for (int habit = 0; habit < 19; habit++) {
            registry.addHabit(0, 'd', 1);
            registry.neglect(habit);
        }
        registry.addHabit(0, 'd', 3);
        return registry;
    }

    static String outcome(HabitRegistry registry, Call call) {
        try {
            return "answers " + call.on(registry);
        } catch (RuntimeException thrown) {
            return "throws " + thrown.getClass().getSimpleName();
        }
    }

    /** The data, the orders of succession, the number of changes and the output. */
    static String seen(HabitRegistry registry) {
        StringBuilder text = new StringBuilder();
        text.append(Checks.data(registry)).append(" | ").append(Checks.positions(registry));
        text.append("| ").append(registry.undoCount()).append(" | ");
        String sign = outcome(registry, other -> other.outputAt(0));
        for (int index = 1; sign.startsWith("answers "); index++) {
            int next = index;
            text.append(sign.charAt(sign.length() - 1));
            sign = outcome(registry, other -> other.outputAt(next));
        }
        return text.toString();
    }

    static String syntaxError(HabitRegistry registry) {
        return outcome(registry, HabitRegistry::syntaxErrorOffset);
    }

    static String rejection(HabitRegistry registry) {
        return outcome(registry, HabitRegistry::rejectionReason) + ", "
                + outcome(registry, HabitRegistry::rejectionDetail) + ", "
                + outcome(registry, HabitRegistry::causeReason);
    }

    private static String outcomeOfUndo(HabitRegistry registry) {
        return outcome(registry, HabitRegistry::undo) + ": " + registry.peopleCount() + " " + registry.livingCount()
                + " " + registry.habitCount() + " " + registry.totalStrength() + " " + registry.year() + " "
                + registry.lapsedCount() + " " + registry.mergedCount() + " " + registry.brokenCount() + " "
                + registry.undoCount();
    }

    void answers(String what, Object want, HabitRegistry registry, Call call) {
        checks.dueText(what, "answers " + want, outcome(registry, call));
    }

    /** The call throws this and changes nothing at all. */
    void throwing(String what, Class<? extends RuntimeException> due, Past past, Call call) {
        HabitRegistry registry = past.lived();
        HabitRegistry twin = past.lived();
        checks.dueText(what, "throws " + due.getSimpleName(), outcome(registry, call));
        checks.dueText(what + ": the latest rejection then", rejection(twin), rejection(registry));
        checks.dueText(what + ": the latest syntax error then", syntaxError(twin), syntaxError(registry));
        goOnAlike(what, registry, twin);
    }

    /** The call is rejected and changes nothing but the latest rejection. */
    void rejecting(String what, int reason, int detail, Past past, Call call) {
        rejecting(what, "answers " + reason + ", answers " + detail + ", throws NoSuchElementException", past, call);
    }

    private void rejecting(String what, String rejection, Past past, Call call) {
        HabitRegistry registry = past.lived();
        HabitRegistry twin = past.lived();
        checks.dueText(what, "throws UnsupportedOperationException", outcome(registry, call));
        checks.dueText(what + ": the latest rejection then", rejection, rejection(registry));
        checks.dueText(what + ": the latest syntax error then", syntaxError(twin), syntaxError(registry));
        goOnAlike(what, registry, twin);
    }

    /** The text of commands is rejected at this command, with this cause; nothing else is changed. */
    void rejectingText(String text, int command, int cause, Past past) {
        String rejection = "answers " + HabitRegistry.COMMAND_REJECTED + ", answers " + command + ", answers " + cause;
        rejecting("'" + text + "'", rejection, past, registry -> Checks.execute(registry, text));
    }

    /** The text has a command with an index or a number that is not accepted; nothing is changed. */
    void throwingText(String text, Past past) {
        throwing("'" + text + "'", STATE, past, registry -> Checks.execute(registry, text));
    }

    /** The text has a syntax error at this offset; nothing but the latest syntax error is changed. */
    void misreading(String text, int offset, Past past) {
        String what = "'" + text + "'";
        HabitRegistry registry = past.lived();
        HabitRegistry twin = past.lived();
        String thrown = outcome(registry, other -> Checks.execute(other, text));
        checks.dueText(what, "throws IllegalArgumentException", thrown);
        checks.dueText(what + ": its offset", "answers " + offset, syntaxError(registry));
        checks.dueText(what + ": the latest rejection then", rejection(twin), rejection(registry));
        goOnAlike(what, registry, twin);
    }

    /** Two registries show the same, have the same input, the same changes to undo and the same snapshot. */
    void goOnAlike(String what, HabitRegistry registry, HabitRegistry twin) {
        checks.dueText(what + ": what is seen then", seen(twin), seen(registry));
        Call[] steps = {other -> other.appendInput('1'), HabitRegistry::execute};
        for (Call step : steps) {
            checks.dueText(what + ": the input then", outcome(twin, step), outcome(registry, step));
        }
        for (int undone = 0; undone < 10; undone++) {
            checks.dueText(what + ": undo then", outcomeOfUndo(twin), outcomeOfUndo(registry));
        }
        String want = outcome(twin, HabitRegistry::restoreSnapshot);
        checks.dueText(what + ": the snapshot then", want, outcome(registry, HabitRegistry::restoreSnapshot));
        checks.dueText(what + ": the data of the snapshot", seen(twin), seen(registry));
    }

    /** Throws IndexOutOfBoundsException if there is no such person: too small, too large, nobody there yet or again. */
    void asksForPerson(String what, IndexCall call) {
        for (int person : new int[] {-1, 9, 10, 16, Integer.MIN_VALUE, Integer.MAX_VALUE}) {
            throwing(what + " of person " + person, INDEX, Edges::lived, registry -> call.on(registry, person));
        }
        throwing(what + " of person 0 of none", INDEX, Edges::unborn, registry -> call.on(registry, 0));
        throwing(what + " of person 16 of 16", INDEX, Edges::fullOfPeople, registry -> call.on(registry, 16));
        throwing(what + " of a person who was undone", INDEX, Edges::personUndone, registry -> call.on(registry, 9));
        throwing(what + " of a person who is not in the snapshot", INDEX, Edges::restored,
                registry -> call.on(registry, 6));
        throwing(what + " of a person of commands that failed", INDEX, Edges::personOfFailure,
                registry -> call.on(registry, 9));
        accepts(what + " of the first person", Edges::lived, registry -> call.on(registry, 0));
        accepts(what + " of the last person", Edges::lived, registry -> call.on(registry, 8));
        accepts(what + " of person 15 of 16", Edges::fullOfPeople, registry -> call.on(registry, 15));
    }

    /** Throws IndexOutOfBoundsException if there is no such habit: too small, too large, none there yet or again. */
    void asksForHabit(String what, IndexCall call) {
        for (int habit : new int[] {-1, 7, 8, 20, Integer.MIN_VALUE, Integer.MAX_VALUE}) {
            throwing(what + " of habit " + habit, INDEX, Edges::lived, registry -> call.on(registry, habit));
        }
        throwing(what + " of habit 0 of none", INDEX, Edges::unborn, registry -> call.on(registry, 0));
        throwing(what + " of habit 20 of 20", INDEX, Edges::fullOfHabits, registry -> call.on(registry, 20));
        throwing(what + " of a habit that was undone", INDEX, Edges::habitUndone, registry -> call.on(registry, 7));
        throwing(what + " of a habit that is not in the snapshot", INDEX, Edges::restored,
                registry -> call.on(registry, 1));
        accepts(what + " of the first habit", Edges::lived, registry -> call.on(registry, 0));
        accepts(what + " of an extinct habit", Edges::lived, registry -> call.on(registry, 3));
        accepts(what + " of the last habit", Edges::lived, registry -> call.on(registry, 6));
        accepts(what + " of habit 19 of 20", Edges::fullOfHabits, registry -> call.on(registry, 19));
    }

    /** The index is there, whatever else the call has to say. */
    private void accepts(String what, Past past, Call call) {
        boolean there = !outcome(past.lived(), call).equals("throws IndexOutOfBoundsException");
        checks.due(what + ": there is one", true, there);
    }

    private static HabitRegistry personUndone() {
        HabitRegistry registry = lived();
        registry.addChild(0);
        registry.undo();
        return registry;
    }

    private static HabitRegistry habitUndone() {
        HabitRegistry registry = lived();
        registry.addHabit(2, 'd', 4);
        registry.undo();
        return registry;
    }

    private static HabitRegistry restored() {
        HabitRegistry registry = lived();
        registry.restoreSnapshot();
        return registry;
    }

    private static HabitRegistry personOfFailure() {
        HabitRegistry registry = livedWithoutInput();
        outcome(registry, other -> Checks.execute(other, "f;b7"));
        return registry;
    }
}
