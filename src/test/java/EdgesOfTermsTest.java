/** The edges that the terms of the document name, sentence by sentence. */
public final class EdgesOfTermsTest {
    private static final Checks CHECKS = new Checks("EdgesOfTermsTest");
    private static final Edges EDGES = new Edges(CHECKS);

    public static void main(String[] arguments) {
        peopleAreNumbered();
        peopleAreNew();
        familiesAreApart();
        successionOfAFamily();
        habitsAreNumbered();
        habitsAreNew();
        strengthsStayInRange();
        oneHabitOfAKind();
        entailedByTheDirectHeir();
        othersByTheHeir();
        noSuchHeir();
        mergedUpToNine();
        mergedKeepsItsOwn();
        inheritedKeepsAll();
        giftsOverThreeSteps();
        practisedAfterTheCall();
        theFirstReasonApplies();
        whatIsAChange();
        whatIsNoChange();
        whatUndoCovers();
        whatTheSnapshotCovers();
        CHECKS.end();
    }

    /** "At most 16 people, numbered from 0 in the order in which they are added; nobody is removed." */
    private static void peopleAreNumbered() {
        HabitRegistry registry = new HabitRegistry();
        for (int person = 0; person < 16; person++) {
            boolean founder = person % 3 == 0;
            CHECKS.due("number " + person, person, founder ? registry.addFounder() : registry.addChild(person - 1));
            CHECKS.due("people with " + person, person + 1, registry.peopleCount());
        }
        for (int person = 0; person < 16; person++) {
            registry.bury(person);
            CHECKS.due("nobody is removed, " + person, 16, registry.peopleCount());
            CHECKS.due("nor loses the parent, " + person, person % 3 == 0, registry.isFounder(person));
        }
        CHECKS.rejected("a burial makes no room", registry, HabitRegistry.PEOPLE_LIMIT, 16, registry::addFounder);
    }

    /** "A person is a founder or has one parent." "A new person is alive." */
    private static void peopleAreNew() {
        HabitRegistry registry = Checks.after("f;b0;f;c1");
        CHECKS.due("a founder behind a dead one is alive", true, registry.isAlive(1));
        CHECKS.due("a child is alive", true, registry.isAlive(2));
        CHECKS.due("a child is no founder", false, registry.isFounder(2));
        CHECKS.due("a child has a parent", 1, registry.parentOf(2));
        registry.bury(2);
        registry.undo();
        registry.undo();
        CHECKS.due("at the index of one who was dead and undone", 0, registry.addFounder());
        CHECKS.due("a new person is alive too", true, registry.isAlive(0));
        CHECKS.due("and has no children yet", 0, registry.childCount(0));
    }

    /** "The people who descend from one founder, and this founder, are a family." */
    private static void familiesAreApart() {
        HabitRegistry registry = Checks.after("f;f;c0;c1;c2;c3;c1;a0d1;a1d1;b2;b4");
        CHECKS.noElement("founders are strangers", () -> registry.distance(0, 1));
        CHECKS.noElement("so are their descendants", () -> registry.distance(4, 5));
        CHECKS.noElement("and found by search", () -> registry.distanceBySearch(4, 5));
        CHECKS.noElement("no heir from the other family", () -> registry.heirOf(0));
        CHECKS.noElement("nor by comparison", () -> registry.heirByComparison(0));
        CHECKS.due("a burial breaks the habit", 0, registry.bury(0));
        CHECKS.due("and leaves the other family's", 1, registry.holderOf(1));
        CHECKS.due("positions begin in each family", 0, registry.successionPosition(1));
        CHECKS.due("and go on in it", 3, registry.successionPosition(6));
    }

    /** "Begins with the founder; each person is followed by the first child with all its descendants", and so on. */
    private static void successionOfAFamily() {
        HabitRegistry registry = Checks.after("f;c0;c0;f;c0;c2;c1;c5;c3;c2;c6;c1;c5");
        int[] order = {0, 1, 6, 10, 11, 2, 5, 7, 12, 9, 4};
        for (int position = 0; position < order.length; position++) {
            CHECKS.due("position of " + order[position], position, registry.successionPosition(order[position]));
        }
        CHECKS.due("the other founder", 0, registry.successionPosition(3));
        CHECKS.due("and the child", 1, registry.successionPosition(8));
        for (int position = 0; position + 1 < order.length; position++) {
            registry.bury(order[position]);
            CHECKS.due("the first living one " + position, order[position + 1], registry.directHeirOf(0));
        }
        registry.bury(4);
        CHECKS.noElement("none is left", () -> registry.directHeirOf(0));
    }

    /** "At most 20 habits, numbered from 0 in the order in which they are added, extinct ones included." */
    private static void habitsAreNumbered() {
        HabitRegistry registry = Checks.after("f;f;f;f;f;f;f");
        for (int habit = 0; habit < 20; habit++) {
            CHECKS.due("number", habit, registry.addHabit(habit / 3, "dsh".charAt(habit % 3), 1));
            CHECKS.due("habits", habit + 1, registry.habitCount());
        }
        registry.passYears(1);
        CHECKS.due("extinct ones included", 20, registry.habitCount());
        CHECKS.rejected("an extinct habit makes no room", registry, HabitRegistry.HABIT_LIMIT, 20,
                () -> registry.addHabit(6, 'h', 1));
    }

    /** "A new habit is not entailed and not practised." */
    private static void habitsAreNew() {
        HabitRegistry registry = Checks.after("f;c0;a0d1;e0;p0");
        registry.undo();
        Checks.execute(registry, "f;c0;a0d1;p0;e0;y1");
        registry.undo();
        registry.addFounder();
        registry.addHabit(0, 'd', 4);
        CHECKS.due("at the index of one that was entailed and undone", false, registry.isEntailed(0));
        CHECKS.due("at the index of one that was practised and undone", false, registry.isPractised(0));
        CHECKS.due("with its own strength", 4, registry.strengthOf(0));
        CHECKS.due("it ends as one that is not practised", 4, registry.yearsLeft(0));
    }

    /** "Is held by one living person, and has a strength from 1 to 9." */
    private static void strengthsStayInRange() {
        HabitRegistry registry = Checks.after("f;c0;a0d9;a1d9;a0s1;e2;k2");
        CHECKS.due("half of 1", 1, registry.strengthOf(2));
        CHECKS.rejected("not above 9", registry, HabitRegistry.FULL_STRENGTH, 9, () -> registry.practise(0));
        registry.bury(0);
        CHECKS.due("9 and 9", 9, registry.strengthOf(1));
        CHECKS.due("the holder is alive", true, registry.isAlive(registry.holderOf(1)));
        CHECKS.due("below 1 it is extinct", 0, registry.neglect(2));
        CHECKS.due("and stays at 0", 0, registry.strengthOf(2));
        registry.passYears(9);
        CHECKS.due("not below 0", 0, registry.strengthOf(2));
    }

    /** "A person holds at most one habit of each kind." */
    private static void oneHabitOfAKind() {
        HabitRegistry registry = Checks.after("f;c0;a0d2;a1d3;a0s1");
        CHECKS.rejected("not by a new one", registry, HabitRegistry.HAS_KIND, 0, () -> registry.addHabit(0, 'd', 1));
        CHECKS.rejected("not by a gift", registry, HabitRegistry.HAS_KIND, 1, () -> registry.give(0, 1));
        registry.bury(0);
        CHECKS.due("not by inheritance", 1, registry.habitOf(1, 'd'));
        CHECKS.due("one is merged", true, registry.isExtinct(0));
        CHECKS.due("another kind is held beside it", 2, registry.habitOf(1, 's'));
    }

    /** "An entailed habit by the direct heir." */
    private static void entailedByTheDirectHeir() {
        HabitRegistry registry = Checks.after("f;c0;c0;c1;c2;a1d5;e0;a0s4;e1;b1");
        CHECKS.due("by the first child of its holder", 3, registry.holderOf(0));
        CHECKS.due("it stays entailed, though the heir has no direct heir", true, registry.isEntailed(0));
        CHECKS.due("one is inherited", 1, registry.bury(0));
        CHECKS.due("by a descendant of a dead child", 3, registry.holderOf(1));
        CHECKS.due("both are broken with the heir", 0, registry.bury(3));
        CHECKS.due("though a cousin lives", 2, registry.brokenCount());
    }

    /** "Another habit by the heir." */
    private static void othersByTheHeir() {
        HabitRegistry up = Checks.after("f;c0;c0;a2d5;a2s1;b2");
        CHECKS.due("by the parent", 0, up.holderOf(0));
        CHECKS.due("all of them", 0, up.holderOf(1));
        HabitRegistry side = Checks.after("f;c0;c0;b0;a2d5;b2");
        CHECKS.due("by a sibling", 1, side.holderOf(0));
        HabitRegistry down = Checks.after("f;c0;c0;c2;a2d5;b2");
        CHECKS.due("by the direct heir ahead of the parent", 3, down.holderOf(0));
        HabitRegistry far = Checks.after("f;c0;c1;c2;c3;c0;b0;b1;b2;b3;a4h2;b4");
        CHECKS.due("by the last living one of the family", 5, far.holderOf(0));
        CHECKS.due("which is then without an heir", 0, far.bury(5));
        CHECKS.due("so the habit is broken", 1, far.brokenCount());
    }

    /** "If there is no such heir, the habit becomes extinct." */
    private static void noSuchHeir() {
        HabitRegistry registry = Checks.after("f;c0;c1;a1d3;a1s4;a1h5;e0;e2;b2");
        CHECKS.due("the one without entail goes to the parent", 1, registry.bury(1));
        CHECKS.due("its holder", 0, registry.holderOf(1));
        CHECKS.due("the first entailed one is extinct", true, registry.isExtinct(0));
        CHECKS.due("the second entailed one is extinct", true, registry.isExtinct(2));
        CHECKS.due("both are broken", 2, registry.brokenCount());
        CHECKS.due("none is merged", 0, registry.mergedCount());
        CHECKS.due("none has lapsed", 0, registry.lapsedCount());
        CHECKS.due("a habit without entail and without an heir", 0, registry.bury(0));
        CHECKS.due("is broken too", 3, registry.brokenCount());
    }

    /** "Greater by the strength of the inherited one, but not greater than 9", and the inherited one is extinct. */
    private static void mergedUpToNine() {
        for (int own = 1; own <= 9; own++) {
            for (int inherited = 1; inherited <= 9; inherited++) {
                String what = own + " and " + inherited;
                HabitRegistry registry = Checks.after("f;c0;a1s" + own + ";a0s" + inherited);
                CHECKS.due(what + ", counted", 1, registry.bury(0));
                CHECKS.due(what + ", the sum", Math.min(own + inherited, 9), registry.strengthOf(0));
                CHECKS.due(what + ", the inherited one", 0, registry.strengthOf(1));
                CHECKS.due(what + ", merged", 1, registry.mergedCount());
                CHECKS.due(what + ", total", Math.min(own + inherited, 9), registry.totalStrength());
            }
        }
    }

    /** "The habit of the heir keeps its own entail and its own practice." */
    private static void mergedKeepsItsOwn() {
        for (int states = 0; states < 16; states++) {
            HabitRegistry registry = Checks.after("f;c0;c1;a0d2;a1d2");
            prepare(registry, 0, states % 4);
            prepare(registry, 1, states / 4);
            boolean entailed = registry.isEntailed(1);
            boolean practised = registry.isPractised(1);
            CHECKS.due("merged, " + states, 1, registry.bury(0));
            CHECKS.due("the entail, " + states, entailed, registry.isEntailed(1));
            CHECKS.due("the practice, " + states, practised, registry.isPractised(1));
            CHECKS.due("no entail of the extinct one, " + states, false, registry.isEntailed(0));
            CHECKS.due("no practice of the extinct one, " + states, false, registry.isPractised(0));
        }
    }

    private static void prepare(HabitRegistry registry, int habit, int state) {
        if (state % 2 == 1) {
            registry.entail(habit);
        }
        if (state / 2 == 1) {
            registry.practise(habit);
        }
    }

    /** "Otherwise the heir becomes the holder of the habit, which keeps its strength, its entail and its practice." */
    private static void inheritedKeepsAll() {
        for (int state = 0; state < 4; state++) {
            HabitRegistry registry = Checks.after("f;c0;c1;a0d2;a1h2");
            prepare(registry, 0, state);
            int strength = registry.strengthOf(0);
            CHECKS.due("inherited, " + state, 1, registry.bury(0));
            CHECKS.due("the holder, " + state, 1, registry.holderOf(0));
            CHECKS.due("the strength, " + state, strength, registry.strengthOf(0));
            CHECKS.due("the entail, " + state, state % 2 == 1, registry.isEntailed(0));
            CHECKS.due("the practice, " + state, state / 2 == 1, registry.isPractised(0));
        }
        HabitRegistry extinctKind = Checks.after("f;c0;a1d1;n0;a0d3");
        CHECKS.due("an extinct habit of the kind does not merge", 1, extinctKind.bury(0));
        CHECKS.due("its holder", 1, extinctKind.holderOf(1));
        CHECKS.due("none is merged", 0, extinctKind.mergedCount());
    }

    /** "To a person whose distance from the holder is at most 3." */
    private static void giftsOverThreeSteps() {
        for (int person = 1; person < 8; person++) {
            HabitRegistry registry = Checks.after("f;c0;c1;c2;c3;c0;c5;c6;a0d1;g0>2");
            int receiver = person;
            int distance = registry.distance(2, person);
            if (person == 2) {
                CHECKS.rejected("to the holder", registry, HabitRegistry.SAME_HOLDER, 2, () -> registry.give(0, 2));
            } else if (distance <= 3) {
                CHECKS.due("over " + distance + " steps to " + person, distance, registry.give(0, person));
            } else {
                CHECKS.rejected("over " + distance + " steps to " + person, registry, HabitRegistry.TOO_DISTANT,
                        distance, () -> registry.give(0, receiver));
            }
        }
        HabitRegistry overTheDead = Checks.after("f;c0;c0;c1;a3d1;b0;b1");
        CHECKS.due("over the dead", 3, overTheDead.give(0, 2));
    }

    /** "Is practised after the call if it was practised before it." */
    private static void practisedAfterTheCall() {
        for (boolean before : new boolean[] {false, true}) {
            HabitRegistry registry = Checks.after("f;c0;c1;a0d6;e0" + (before ? ";p0" : ""));
            registry.neglect(0);
            CHECKS.due("neglected, " + before, before, registry.isPractised(0));
            registry.breakEntail(0);
            CHECKS.due("without its entail, " + before, before, registry.isPractised(0));
            registry.give(0, 1);
            CHECKS.due("given, " + before, before, registry.isPractised(0));
            registry.entail(0);
            CHECKS.due("entailed, " + before, before, registry.isPractised(0));
        }
        HabitRegistry extinct = Checks.after("f;a0d1;p0;n0;n0");
        CHECKS.due("neglected to its end", false, extinct.isPractised(0));
    }

    /** "A call is rejected for the first reason that applies, in the order in which its method names them." */
    private static void theFirstReasonApplies() {
        EDGES.rejecting("DEAD, PEOPLE_LIMIT", HabitRegistry.DEAD, 0, Edges::fullOfPeople, other -> other.addChild(0));
        EDGES.rejecting("DEAD, HABIT_LIMIT", HabitRegistry.DEAD, 1, Edges::fullOfHabits,
                other -> other.addHabit(1, 'h', 9));
        EDGES.rejecting("HAS_KIND, HABIT_LIMIT", HabitRegistry.HAS_KIND, 19, Edges::fullOfHabits,
                other -> other.addHabit(0, 'd', 9));
        EDGES.rejecting("EXTINCT, NO_DIRECT_HEIR", HabitRegistry.EXTINCT, 0, Edges::fullOfHabits,
                other -> other.entail(0));
        EDGES.rejecting("EXTINCT, NOT_ENTAILED", HabitRegistry.EXTINCT, 0, Edges::fullOfHabits,
                other -> other.breakEntail(0));
        EDGES.rejecting("EXTINCT, DEAD", HabitRegistry.EXTINCT, 0, Edges::fullOfHabits, other -> other.give(0, 1));
        Edges.Past entailed = () -> Checks.after("f;c0;f;a0d3;a2d3;e0;f;b3;b1");
        EDGES.rejecting("ENTAILED, NO_DIRECT_HEIR", HabitRegistry.ENTAILED, 0, entailed, other -> other.entail(0));
        EDGES.rejecting("ENTAILED, DEAD, TOO_DISTANT", HabitRegistry.ENTAILED, 0, entailed,
                other -> other.give(0, 3));
        EDGES.rejecting("ENTAILED, SAME_HOLDER, HAS_KIND", HabitRegistry.ENTAILED, 0, entailed,
                other -> other.give(0, 0));
        EDGES.rejecting("ENTAILED, TOO_DISTANT, HAS_KIND", HabitRegistry.ENTAILED, 0, entailed,
                other -> other.give(0, 2));
        EDGES.rejecting("DEAD, TOO_DISTANT", HabitRegistry.DEAD, 3, entailed, other -> other.give(1, 3));
        EDGES.rejecting("SAME_HOLDER, HAS_KIND", HabitRegistry.SAME_HOLDER, 2, entailed, other -> other.give(1, 2));
        EDGES.rejecting("TOO_DISTANT, HAS_KIND", HabitRegistry.TOO_DISTANT, -1, entailed, other -> other.give(1, 0));
    }

    private static final Edges.Call[] CHANGES = {HabitRegistry::addFounder, other -> other.addChild(4),
        other -> other.bury(0), other -> other.addHabit(3, 'd', 9), other -> other.practise(6),
        other -> other.neglect(4), other -> other.neglect(1), other -> other.entail(1), other -> other.breakEntail(2),
        other -> other.give(0, 3), other -> other.passYears(9), other -> other.passYears(1),
        other -> Checks.execute(other, "f"), other -> other.bury(3), other -> other.bury(9)};

    /** "A change is a call .. that returns a value", one that returns 0 too. */
    private static void whatIsAChange() {
        for (int change = 0; change < CHANGES.length; change++) {
            HabitRegistry registry = Edges.livedWithoutInput();
            registry.undo();
            registry.undo();
            registry.addChild(6);
            String before = Checks.data(registry);
            String positions = Checks.positions(registry);
            String outcome = Edges.outcome(registry, CHANGES[change]);
            CHECKS.due("change " + change + " answers", true, outcome.startsWith("answers "));
            CHECKS.due("change " + change + " counts", 8, registry.undoCount());
            CHECKS.due("change " + change + " is undone", 7, registry.undo());
            CHECKS.dueText("as it was ahead of change " + change, before, Checks.data(registry));
            CHECKS.dueText("in the order ahead of change " + change, positions, Checks.positions(registry));
            CHECKS.due("the change ahead of change " + change + " is undone", 6, registry.undo());
            CHECKS.due("so person 9 is not there, " + change, 9, registry.peopleCount());
        }
        HabitRegistry registry = new HabitRegistry();
        registry.passYears(1);
        CHECKS.due("a change of the year alone", 1, registry.undoCount());
        registry.undo();
        CHECKS.due("is undone", 0, registry.year());
    }

    /** Calls that answer but are none of those that the document counts as changes. */
    private static void whatIsNoChange() {
        Edges.Call[] others = {HabitRegistry::saveSnapshot, other -> other.appendInput('f'),
            other -> other.writePerson(0), other -> other.writeLine(0), HabitRegistry::isConsistent,
            HabitRegistry::undoCount,
            HabitRegistry::peopleCount, other -> other.distanceBySearch(1, 5), other -> other.heirByComparison(0),
            other -> other.yearsLeft(0), other -> other.personByStrength(0), other -> other.outputAt(0),
            HabitRegistry::totalStrengthByPeople, HabitRegistry::rejectionReason, HabitRegistry::syntaxErrorOffset};
        for (int call = 0; call < others.length; call++) {
            HabitRegistry registry = Edges.lived();
            registry.undo();
            String data = Checks.data(registry);
            String outcome = Edges.outcome(registry, others[call]);
            CHECKS.due("call " + call + " answers", true, outcome.startsWith("answers "));
            CHECKS.dueText("call " + call + " changes no data", data, Checks.data(registry));
            CHECKS.due("call " + call + " does not count", 7, registry.undoCount());
            CHECKS.due("undo behind call " + call + " undoes the change ahead of it", 6, registry.undo());
            CHECKS.due("the burial of 7, behind call " + call, true, registry.isAlive(7));
        }
    }

    /** "Undo and the snapshot cover the people, the habits, the year and the numbers of lapsed, merged and broken." */
    private static void whatUndoCovers() {
        HabitRegistry registry = Edges.livedWithoutInput();
        Checks.execute(registry, "f;c0;b5;p0;k2;y3;b0;b9;c1;a1h4");
        registry.undo();
        registry.addFounder();
        registry.undo();
        registry.addFounder();
        HabitRegistry twin = Edges.livedWithoutInput();
        twin.addFounder();
        EDGES.goOnAlike("undone", registry, twin);
    }

    /** "They do not cover the input, the output, the latest rejection and the latest syntax error." */
    private static void whatTheSnapshotCovers() {
        HabitRegistry registry = Edges.livedWithoutInput();
        registry.saveSnapshot();
        String data = Checks.data(registry);
        Checks.execute(registry, "f;c0;b5;p0;k2;y3;b0;b9;c1;a1h4");
        EDGES.answers("a rejection", "12", registry, other -> {
            Edges.outcome(other, rejected -> Checks.execute(rejected, "b0"));
            return other.rejectionReason();
        });
        CHECKS.badArgument("a syntax error", () -> Checks.execute(registry, "f;c1;;"));
        registry.writeLine(8);
        Checks.append(registry, "f;");
        CHECKS.due("restored", 9, registry.restoreSnapshot());
        CHECKS.dueText("the data", data, Checks.data(registry));
        CHECKS.due("not the output", '8', registry.outputAt(0));
        CHECKS.due("not the input", 3, registry.appendInput('f'));
        CHECKS.due("not the rejection", HabitRegistry.COMMAND_REJECTED, registry.rejectionReason());
        CHECKS.due("not its detail", 0, registry.rejectionDetail());
        CHECKS.due("not its cause", HabitRegistry.DEAD, registry.causeReason());
        CHECKS.due("not the syntax error", 5, registry.syntaxErrorOffset());
        CHECKS.due("the input is executed", 2, registry.execute());
    }
}
