/** Promises 56 to 62: rejections, undo and the snapshot. */
public final class HistoryTest {
    private static final Checks CHECKS = new Checks("HistoryTest");

    public static void main(String[] arguments) {
        rejections();
        causes();
        rejectionsChangeNothing();
        undoOfEveryChange();
        undoLimit();
        undoAfterUndo();
        undoAndTheRest();
        snapshots();
        snapshotOfOtherPeople();
        snapshotAndTheRest();
        CHECKS.end();
    }

    private static void rejections() {
        HabitRegistry registry = new HabitRegistry();
        CHECKS.noElement("no reason at first", registry::rejectionReason);
        CHECKS.noElement("no detail at first", registry::rejectionDetail);
        CHECKS.noElement("no cause at first", registry::causeReason);
        Checks.execute(registry, "f;f;b1;a0d9");
        CHECKS.noIndex("an exception", () -> registry.bury(2));
        CHECKS.noElement("an exception of another kind is no rejection", registry::rejectionReason);
        CHECKS.rejected("the first", registry, HabitRegistry.DEAD, 1, () -> registry.bury(1));
        CHECKS.rejected("the second", registry, HabitRegistry.FULL_STRENGTH, 9, () -> registry.practise(0));
        CHECKS.noIndex("an exception behind a rejection", () -> registry.practise(1));
        registry.addFounder();
        CHECKS.due("the latest stays", HabitRegistry.FULL_STRENGTH, registry.rejectionReason());
        CHECKS.due("its detail stays", 9, registry.rejectionDetail());
    }

    private static void causes() {
        HabitRegistry registry = Checks.after("f;a0d9");
        CHECKS.rejected("a call", registry, HabitRegistry.FULL_STRENGTH, 9, () -> registry.practise(0));
        CHECKS.noElement("a call has no cause", registry::causeReason);
        CHECKS.rejected("a command", registry, HabitRegistry.COMMAND_REJECTED, 0,
                () -> Checks.execute(registry, "p0"));
        CHECKS.due("a command has a cause", HabitRegistry.FULL_STRENGTH, registry.causeReason());
        CHECKS.badState("no rejection", () -> Checks.execute(registry, "f;p1"));
        CHECKS.due("the cause stays", HabitRegistry.FULL_STRENGTH, registry.causeReason());
        CHECKS.rejected("a call again", registry, HabitRegistry.SAME_HOLDER, 0, () -> registry.give(0, 0));
        CHECKS.noElement("no cause again", registry::causeReason);
    }

    private static void rejectionsChangeNothing() {
        HabitRegistry registry = Checks.after("f;c0;a0d9;a1d1;p1;y1;b1");
        registry.writePerson(0);
        Checks.append(registry, "f");
        String before = Checks.data(registry);
        CHECKS.rejected("practise", registry, HabitRegistry.FULL_STRENGTH, 9, () -> registry.practise(0));
        CHECKS.rejected("bury", registry, HabitRegistry.DEAD, 1, () -> registry.bury(1));
        CHECKS.rejected("give", registry, HabitRegistry.DEAD, 1, () -> registry.give(0, 1));
        CHECKS.dueText("data", before, Checks.data(registry));
        CHECKS.due("changes", 1, registry.undoCount());
        CHECKS.due("output", '0', registry.outputAt(0));
        CHECKS.due("input", 2, registry.appendInput(';'));
    }

    /** A change that is asked for on the registry that it is given. */
    private interface Change {
        int makeOn(HabitRegistry registry);
    }

    private static void undoOfEveryChange() {
        Change[] changes = {HabitRegistry::addFounder, registry -> registry.addChild(0), registry -> registry.bury(0),
            registry -> registry.addHabit(2, 'h', 3), registry -> registry.practise(0),
            registry -> registry.neglect(1), registry -> registry.entail(1), registry -> registry.breakEntail(0),
            registry -> registry.give(1, 2), registry -> registry.passYears(9),
            registry -> Checks.execute(registry, "f;c1;b2;a1h9;y1")};
        for (int change = 0; change < changes.length; change++) {
            HabitRegistry registry = Checks.after("f;c0;c1;a0d5;a1s6;a0s9;e0;p1;y1;f;b3");
            String before = Checks.data(registry);
            String positions = Checks.positions(registry);
            changes[change].makeOn(registry);
            CHECKS.due("change " + change + " counts", 2, registry.undoCount());
            CHECKS.due("change " + change + " changes the data", false, before.equals(Checks.data(registry)));
            CHECKS.due("undo of change " + change, 1, registry.undo());
            CHECKS.dueText("data after undo of change " + change, before, Checks.data(registry));
            CHECKS.dueText("positions after undo of change " + change, positions, Checks.positions(registry));
            CHECKS.due("a person added then takes the index", 4, registry.addChild(0));
            CHECKS.due("and stands behind the first child", 3, registry.successionPosition(4));
        }
    }

    private static void undoLimit() {
        HabitRegistry registry = new HabitRegistry();
        CHECKS.badState("nothing at first", registry::undo);
        for (int change = 0; change < 12; change++) {
            registry.addFounder();
            CHECKS.due("changes", Math.min(change + 1, 8), registry.undoCount());
        }
        for (int left = 7; left >= 0; left--) {
            CHECKS.due("left", left, registry.undo());
            CHECKS.due("left, asked again", left, registry.undoCount());
            CHECKS.due("people left", left + 4, registry.peopleCount());
        }
        CHECKS.badState("no more than eight", registry::undo);
        CHECKS.due("nothing was changed", 4, registry.peopleCount());
    }

    private static void undoAfterUndo() {
        HabitRegistry registry = new HabitRegistry();
        for (int year = 1; year <= 9; year++) {
            registry.passYears(year);
        }
        registry.undo();
        registry.undo();
        CHECKS.due("a change behind undo", 0, registry.passYears(1));
        CHECKS.due("it can be undone", 7, registry.undoCount());
        CHECKS.due("the years", 29, registry.year());
        int[] due = {28, 21, 15, 10, 6, 3, 1};
        for (int position = 0; position < due.length; position++) {
            registry.undo();
            CHECKS.due("years after undo", due[position], registry.year());
        }
        CHECKS.badState("the end", registry::undo);
    }

    private static void undoAndTheRest() {
        HabitRegistry registry = Checks.after("f");
        CHECKS.badArgument("a syntax error", () -> Checks.execute(registry, "f;q"));
        CHECKS.rejected("a rejection", registry, HabitRegistry.COMMAND_REJECTED, 1,
                () -> Checks.execute(registry, "b0;b0"));
        registry.writePerson(0);
        Checks.append(registry, "f;");
        registry.undo();
        CHECKS.due("the output stays", '0', registry.outputAt(0));
        CHECKS.due("the input stays", 3, registry.appendInput('f'));
        CHECKS.due("the rejection stays", HabitRegistry.COMMAND_REJECTED, registry.rejectionReason());
        CHECKS.due("the detail stays", 1, registry.rejectionDetail());
        CHECKS.due("the cause stays", HabitRegistry.DEAD, registry.causeReason());
        CHECKS.due("the syntax error stays", 2, registry.syntaxErrorOffset());
    }

    private static void snapshots() {
        HabitRegistry registry = Checks.after("f;c0;a0d5;a0s2;e0;p1;y1;b1;f");
        CHECKS.badState("no snapshot", registry::restoreSnapshot);
        CHECKS.due("people saved", 3, registry.saveSnapshot());
        CHECKS.due("saving is no change", 1, registry.undoCount());
        String saved = Checks.data(registry);
        Checks.execute(registry, "c0;c3;a3h9;y9;b0");
        CHECKS.due("people restored", 3, registry.restoreSnapshot());
        CHECKS.dueText("data restored", saved, Checks.data(registry));
        CHECKS.due("nothing can be undone", 0, registry.undoCount());
        CHECKS.badState("undo", registry::undo);
        registry.bury(2);
        registry.addHabit(0, 'h', 3);
        CHECKS.due("it is kept", 3, registry.restoreSnapshot());
        CHECKS.dueText("data restored again", saved, Checks.data(registry));
        registry.addFounder();
        CHECKS.due("another snapshot", 4, registry.saveSnapshot());
        registry.bury(3);
        registry.undo();
        registry.undo();
        CHECKS.due("undo leaves the snapshot", 4, registry.restoreSnapshot());
        CHECKS.due("it is alive there", true, registry.isAlive(3));
        HabitRegistry empty = new HabitRegistry();
        CHECKS.due("an empty snapshot", 0, empty.saveSnapshot());
        empty.addFounder();
        CHECKS.due("is restored too", 0, empty.restoreSnapshot());
        CHECKS.dueText("as it was", "0 0 0 0", Checks.data(empty));
    }

    private static void snapshotOfOtherPeople() {
        HabitRegistry registry = new HabitRegistry();
        Checks.execute(registry, "f;c0;c1;c0;f;a0d1;a1s2;a2h9;e0");
        registry.saveSnapshot();
        String saved = Checks.data(registry);
        String positions = Checks.positions(registry);
        registry.undo();
        Checks.execute(registry, "f;f;c1;c0;c3;a0h9;a1h8;a2d7;a3d6;y1");
        CHECKS.due("people restored", 5, registry.restoreSnapshot());
        CHECKS.dueText("data restored", saved, Checks.data(registry));
        CHECKS.dueText("positions restored", positions, Checks.positions(registry));
    }

    private static void snapshotAndTheRest() {
        HabitRegistry registry = Checks.after("f");
        registry.saveSnapshot();
        CHECKS.badArgument("a syntax error", () -> Checks.execute(registry, "f;"));
        CHECKS.rejected("a rejection", registry, HabitRegistry.COMMAND_REJECTED, 1,
                () -> Checks.execute(registry, "b0;b0"));
        registry.writeLine(0);
        Checks.append(registry, "f");
        registry.restoreSnapshot();
        CHECKS.due("the output stays", '0', registry.outputAt(0));
        CHECKS.due("the input stays", 2, registry.appendInput(';'));
        CHECKS.due("the rejection stays", HabitRegistry.COMMAND_REJECTED, registry.rejectionReason());
        CHECKS.due("the cause stays", HabitRegistry.DEAD, registry.causeReason());
        CHECKS.due("the syntax error stays", 2, registry.syntaxErrorOffset());
    }
}
