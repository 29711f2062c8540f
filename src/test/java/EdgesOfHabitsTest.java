/** The edges that the promises 22 to 49 name, promise by promise: habits, years, totals and orders. */
public final class EdgesOfHabitsTest {
    private static final Checks CHECKS = new Checks("EdgesOfHabitsTest");
    private static final Edges EDGES = new Edges(CHECKS);
    private static final char[] NO_KINDS = {0, ' ', '0', 'D', 'S', 'H', 'c', 'e', 'g', 'i', 'r', 't', 'x', 127, 255,
        256 + 'd', 256 + 's', 256 + 'h', 65535};
    private static final int[] NO_DIGITS = {0, 10, -1, 11, 256 + 5, Integer.MIN_VALUE, Integer.MAX_VALUE};

    public static void main(String[] arguments) {
        promise22();
        promise22Rejected();
        promise23();
        promise24();
        promise25();
        promise26();
        promise27();
        promise27Rejected();
        promises28To30();
        promises31To34();
        promise35();
        promise36();
        promises37And38();
        promise39();
        promises40To42();
        promises43And44();
        promise45();
        promise46();
        promise47();
        promise48();
        promise49();
        CHECKS.end();
    }

    private static void promise22() {
        EDGES.asksForPerson("22: a habit", (registry, person) -> registry.addHabit(person, 'h', 1));
        for (char kind : NO_KINDS) {
            EDGES.throwing("22: no kind " + (int) kind, Edges.ARGUMENT, Edges::lived,
                    other -> other.addHabit(2, kind, 1));
        }
        for (int strength : NO_DIGITS) {
            EDGES.throwing("22: no strength " + strength, Edges.ARGUMENT, Edges::lived,
                    other -> other.addHabit(2, 'd', strength));
        }
        EDGES.throwing("22: no person is named ahead of no kind", Edges.INDEX, Edges::lived,
                other -> other.addHabit(9, 'x', 1));
        EDGES.throwing("22: no person is named ahead of no strength", Edges.INDEX, Edges::lived,
                other -> other.addHabit(-1, 'd', 0));
        EDGES.throwing("22: no kind is named ahead of DEAD", Edges.ARGUMENT, Edges::lived,
                other -> other.addHabit(7, 'x', 1));
        EDGES.throwing("22: no strength is named ahead of DEAD", Edges.ARGUMENT, Edges::lived,
                other -> other.addHabit(7, 'd', 10));
        EDGES.throwing("22: no strength is named ahead of HAS_KIND", Edges.ARGUMENT, Edges::lived,
                other -> other.addHabit(0, 'd', 0));
        EDGES.throwing("22: no strength is named ahead of HABIT_LIMIT", Edges.ARGUMENT, Edges::fullOfHabits,
                other -> other.addHabit(0, 's', 0));
        for (String text : new String[] {"a9d1", "a2d0", "a99d1", "a7d0", "a9d0"}) {
            EDGES.throwingText(text, Edges::livedWithoutInput);
        }
        EDGES.answers("22: the least strength", 7, Edges.lived(), other -> other.addHabit(2, 'd', 1));
        EDGES.answers("22: the greatest strength", 7, Edges.lived(), other -> other.addHabit(2, 'd', 9));
        EDGES.answers("22: a kind whose habit is extinct", 7, Edges.lived(), other -> other.addHabit(0, 'h', 2));
        EDGES.answers("22: the first habit", 0, Checks.after("f"), other -> other.addHabit(0, 's', 4));
    }

    private static void promise22Rejected() {
        EDGES.rejecting("22: of the dead", HabitRegistry.DEAD, 7, Edges::lived, other -> other.addHabit(7, 'd', 1));
        EDGES.rejecting("22: of the kind", HabitRegistry.HAS_KIND, 2, Edges::lived,
                other -> other.addHabit(0, 's', 1));
        EDGES.rejecting("22: of the kind, habit 0", HabitRegistry.HAS_KIND, 0, Edges::lived,
                other -> other.addHabit(0, 'd', 9));
        EDGES.rejecting("22: behind 20 habits", HabitRegistry.HABIT_LIMIT, 20, Edges::fullOfHabits,
                other -> other.addHabit(0, 's', 1));
        EDGES.rejecting("22: a 21st habit, none of 20 extinct", HabitRegistry.HABIT_LIMIT, 20,
                EdgesOfHabitsTest::strongest, other -> other.addHabit(6, 'h', 9));
        EDGES.rejecting("22: HAS_KIND is named ahead of HABIT_LIMIT", HabitRegistry.HAS_KIND, 19, Edges::fullOfHabits,
                other -> other.addHabit(0, 'd', 1));
        EDGES.rejecting("22: DEAD is named ahead of HABIT_LIMIT", HabitRegistry.DEAD, 1, Edges::fullOfHabits,
                other -> other.addHabit(1, 'd', 1));
        EDGES.rejectingText("a7d1", 0, HabitRegistry.DEAD, Edges::livedWithoutInput);
        EDGES.rejectingText("a0d1", 0, HabitRegistry.HAS_KIND, Edges::livedWithoutInput);
        EDGES.rejectingText("a0s1", 0, HabitRegistry.HABIT_LIMIT, Edges::fullOfHabits);
        EDGES.rejectingText("a1s1", 0, HabitRegistry.DEAD, Edges::fullOfHabits);
        HabitRegistry registry = Edges.fullOfHabits();
        registry.undo();
        EDGES.answers("22: habit number 20 behind undo", 19, registry, other -> other.addHabit(0, 'h', 9));
        EDGES.answers("22: it is not entailed", "false", registry, other -> other.isEntailed(19));
        EDGES.answers("22: it is not practised", "false", registry, other -> other.isPractised(19));
    }

    private static void promise23() {
        EDGES.asksForHabit("23: practice", HabitRegistry::practise);
        EDGES.rejecting("23: extinct", HabitRegistry.EXTINCT, 3, Edges::lived, other -> other.practise(3));
        EDGES.rejecting("23: extinct, habit 0", HabitRegistry.EXTINCT, 0, Edges::fullOfHabits,
                other -> other.practise(0));
        EDGES.rejecting("23: with the strength 9", HabitRegistry.FULL_STRENGTH, 9, Edges::lived,
                other -> other.practise(1));
        EDGES.rejectingText("p3", 0, HabitRegistry.EXTINCT, Edges::livedWithoutInput);
        EDGES.rejectingText("p1", 0, HabitRegistry.FULL_STRENGTH, Edges::livedWithoutInput);
        EDGES.throwingText("p7", Edges::livedWithoutInput);
        HabitRegistry registry = Checks.after("f;a0d8");
        EDGES.answers("23: up to the strength 9", 9, registry, other -> other.practise(0));
        EDGES.answers("23: it is practised", "true", registry, other -> other.isPractised(0));
        HabitRegistry again = Checks.after("f;a0d1;p0");
        EDGES.answers("23: a practised habit", 3, again, other -> other.practise(0));
    }

    private static void promise24() {
        EDGES.asksForHabit("24: neglect", HabitRegistry::neglect);
        EDGES.rejecting("24: extinct", HabitRegistry.EXTINCT, 3, Edges::lived, other -> other.neglect(3));
        EDGES.rejectingText("n3", 0, HabitRegistry.EXTINCT, Edges::livedWithoutInput);
        EDGES.throwingText("n7", Edges::livedWithoutInput);
        HabitRegistry registry = Edges.lived();
        EDGES.answers("24: down to the strength 0", 0, registry, other -> other.neglect(4));
        EDGES.answers("24: extinct then", "true", registry, other -> other.isExtinct(4));
        EDGES.answers("24: the strength 9", 8, registry, other -> other.neglect(1));
        EDGES.answers("24: the strength 2", 1, registry, other -> other.neglect(5));
        EDGES.answers("24: not extinct with the strength 1", "false", registry, other -> other.isExtinct(5));
        EDGES.answers("24: an entailed and practised one", 2, registry, other -> other.neglect(2));
        EDGES.answers("24: is entailed", "true", registry, other -> other.isEntailed(2));
        EDGES.answers("24: and practised", "true", registry, other -> other.isPractised(2));
    }

    private static void promise25() {
        EDGES.asksForHabit("25: entail", HabitRegistry::entail);
        EDGES.rejecting("25: extinct", HabitRegistry.EXTINCT, 3, Edges::lived, other -> other.entail(3));
        EDGES.rejecting("25: entailed", HabitRegistry.ENTAILED, 2, Edges::lived, other -> other.entail(2));
        EDGES.rejecting("25: the holder has no descendant", HabitRegistry.NO_DIRECT_HEIR, 4, Edges::lived,
                other -> other.entail(4));
        EDGES.rejecting("25: the holder has no living descendant", HabitRegistry.NO_DIRECT_HEIR, 5, Edges::lived,
                other -> other.entail(6));
        EDGES.rejecting("25: holder 0 has no direct heir", HabitRegistry.NO_DIRECT_HEIR, 0, Edges::fullOfHabits,
                other -> other.entail(19));
        Edges.Past childless = () -> Checks.after("f;c0;a0d3;e0;b1");
        EDGES.rejecting("25: ENTAILED is named ahead of NO_DIRECT_HEIR", HabitRegistry.ENTAILED, 0, childless,
                other -> other.entail(0));
        EDGES.rejectingText("e3", 0, HabitRegistry.EXTINCT, Edges::livedWithoutInput);
        EDGES.rejectingText("e2", 0, HabitRegistry.ENTAILED, Edges::livedWithoutInput);
        EDGES.rejectingText("e4", 0, HabitRegistry.NO_DIRECT_HEIR, Edges::livedWithoutInput);
        EDGES.rejectingText("e0", 0, HabitRegistry.ENTAILED, childless);
        EDGES.throwingText("e7", Edges::livedWithoutInput);
        EDGES.answers("25: the holder", 1, Edges.lived(), other -> other.entail(1));
        EDGES.answers("25: the holder with the index 0", 0, Edges.lived(), other -> other.entail(0));
        HabitRegistry below = Checks.after("f;c0;c1;b1;a0d1");
        EDGES.answers("25: a direct heir below a dead child", 0, below, other -> other.entail(0));
    }

    private static void promise26() {
        EDGES.asksForHabit("26: breaking an entail", HabitRegistry::breakEntail);
        EDGES.rejecting("26: extinct", HabitRegistry.EXTINCT, 3, Edges::lived, other -> other.breakEntail(3));
        EDGES.rejecting("26: not entailed", HabitRegistry.NOT_ENTAILED, 0, Edges::lived,
                other -> other.breakEntail(0));
        EDGES.rejecting("26: not entailed, habit 6", HabitRegistry.NOT_ENTAILED, 6, Edges::lived,
                other -> other.breakEntail(6));
        Edges.Past entailedOnce = () -> Checks.after("f;c0;a0d1;e0;n0");
        EDGES.rejecting("26: extinct, and entailed ahead of that", HabitRegistry.EXTINCT, 0, entailedOnce,
                other -> other.breakEntail(0));
        EDGES.rejectingText("k3", 0, HabitRegistry.EXTINCT, Edges::livedWithoutInput);
        EDGES.rejectingText("k0", 0, HabitRegistry.NOT_ENTAILED, Edges::livedWithoutInput);
        EDGES.throwingText("k7", Edges::livedWithoutInput);
        for (int strength = 1; strength <= 9; strength++) {
            HabitRegistry registry = Checks.after("f;c0;a0d" + strength + ";e0");
            EDGES.answers("26: half of " + strength + ", rounded up", strength - strength / 2, registry,
                    other -> other.breakEntail(0));
            EDGES.answers("26: not entailed then", "false", registry, other -> other.isEntailed(0));
            EDGES.answers("26: not practised then", "false", registry, other -> other.isPractised(0));
        }
        HabitRegistry childless = Checks.after("f;c0;a0d3;e0;b1");
        EDGES.answers("26: without a direct heir", 2, childless, other -> other.breakEntail(0));
    }

    private static void promise27() {
        EDGES.asksForHabit("27: a gift", (registry, habit) -> registry.give(habit, 0));
        EDGES.asksForPerson("27: a gift to", (registry, person) -> registry.give(0, person));
        EDGES.throwing("27: no such habit and no such person", Edges.INDEX, Edges::lived, other -> other.give(7, 9));
        EDGES.throwing("27: no such person is named ahead of EXTINCT", Edges.INDEX, Edges::lived,
                other -> other.give(3, 9));
        EDGES.throwing("27: no such person is named ahead of ENTAILED", Edges.INDEX, Edges::lived,
                other -> other.give(2, -1));
        EDGES.throwing("27: no such habit is named ahead of DEAD", Edges.INDEX, Edges::lived,
                other -> other.give(-1, 7));
        for (String text : new String[] {"g7>0", "g0>9", "g3>9", "g7>7", "g99>99"}) {
            EDGES.throwingText(text, Edges::livedWithoutInput);
        }
        int[][] gifts = {{0, 5, 1}, {0, 2, 2}, {0, 3, 3}, {6, 1, 2}, {6, 2, 3}, {4, 3, 1}};
        for (int[] row : gifts) {
            HabitRegistry registry = Edges.lived();
            EDGES.answers("27: a gift over " + row[2] + " steps", row[2], registry,
                    other -> other.give(row[0], row[1]));
            EDGES.answers("27: its holder", row[1], registry, other -> other.holderOf(row[0]));
        }
        HabitRegistry otherKind = Checks.after("f;c0;a0d1;a1h2;a1s3");
        EDGES.answers("27: to one who holds both other kinds", 1, otherKind, other -> other.give(0, 1));
        HabitRegistry extinctKind = Checks.after("f;c0;a0d1;a1d1;n1");
        EDGES.answers("27: to one whose habit of the kind is extinct", 1, extinctKind, other -> other.give(0, 1));
    }

    private static void promise27Rejected() {
        Object[][] rows = {
            {"extinct", HabitRegistry.EXTINCT, 3, 3, 2},
            {"EXTINCT is named ahead of DEAD", HabitRegistry.EXTINCT, 3, 3, 7},
            {"entailed", HabitRegistry.ENTAILED, 2, 2, 1},
            {"ENTAILED is named ahead of DEAD", HabitRegistry.ENTAILED, 2, 2, 8},
            {"ENTAILED is named ahead of SAME_HOLDER", HabitRegistry.ENTAILED, 2, 2, 0},
            {"ENTAILED is named ahead of TOO_DISTANT", HabitRegistry.ENTAILED, 2, 2, 4},
            {"ENTAILED is named ahead of HAS_KIND", HabitRegistry.ENTAILED, 2, 2, 5},
            {"to the dead", HabitRegistry.DEAD, 8, 6, 8},
            {"DEAD is named ahead of TOO_DISTANT", HabitRegistry.DEAD, 7, 0, 7},
            {"to the holder", HabitRegistry.SAME_HOLDER, 4, 4, 4},
            {"to the holder with the index 0, who has the kind", HabitRegistry.SAME_HOLDER, 0, 0, 0},
            {"over 4 steps", HabitRegistry.TOO_DISTANT, 4, 6, 3},
            {"over 5 steps", HabitRegistry.TOO_DISTANT, 5, 6, 4},
            {"TOO_DISTANT is named ahead of HAS_KIND", HabitRegistry.TOO_DISTANT, 4, 0, 4},
            {"to another family", HabitRegistry.TOO_DISTANT, -1, 1, 6},
            {"to another family, from it", HabitRegistry.TOO_DISTANT, -1, 5, 2},
            {"has the kind", HabitRegistry.HAS_KIND, 1, 0, 1},
            {"has the kind over 3 steps", HabitRegistry.HAS_KIND, 4, 1, 4},
            {"has the kind, entailed", HabitRegistry.HAS_KIND, 2, 6, 0},
        };
        for (Object[] row : rows) {
            int habit = (Integer) row[3];
            int person = (Integer) row[4];
            EDGES.rejecting("27: " + row[0], (Integer) row[1], (Integer) row[2], Edges::lived,
                    other -> other.give(habit, person));
            EDGES.rejectingText("g" + habit + ">" + person, 0, (Integer) row[1], Edges::livedWithoutInput);
        }
    }

    private static void promises28To30() {
        EDGES.answers("28: none yet", 0, new HabitRegistry(), HabitRegistry::habitCount);
        EDGES.answers("28: extinct ones included", 20, Edges.fullOfHabits(), HabitRegistry::habitCount);
        EDGES.asksForHabit("29: the kind", HabitRegistry::kindOf);
        EDGES.answers("29: d", 'd', Edges.lived(), other -> other.kindOf(0));
        EDGES.answers("29: s", 's', Edges.lived(), other -> other.kindOf(2));
        EDGES.answers("29: h, of an extinct habit", 'h', Edges.lived(), other -> other.kindOf(3));
        EDGES.asksForHabit("30: the strength", HabitRegistry::strengthOf);
        EDGES.answers("30: 9", 9, Edges.lived(), other -> other.strengthOf(1));
        EDGES.answers("30: 1", 1, Edges.lived(), other -> other.strengthOf(4));
        EDGES.answers("30: 0 if it is extinct", 0, Edges.lived(), other -> other.strengthOf(3));
    }

    /** A habit of each way to become extinct: neglected, weak with the years, merged and broken; all were entailed. */
    private static HabitRegistry allExtinct() {
        HabitRegistry registry = Checks.after("f;c0;a0d1;a0s2;a0h9;a1h9;e0;e1;e2;n0;y2");
        registry.practise(2);
        registry.bury(0);
        registry.addChild(1);
        registry.entail(3);
        registry.neglect(3);
        registry.practise(3);
        registry.bury(2);
        registry.bury(1);
        return registry;
    }

    private static void promises31To34() {
        EDGES.asksForHabit("31: the holder", HabitRegistry::holderOf);
        EDGES.asksForHabit("32: being extinct", HabitRegistry::isExtinct);
        EDGES.asksForHabit("33: being entailed", HabitRegistry::isEntailed);
        EDGES.asksForHabit("34: being practised", HabitRegistry::isPractised);
        for (int habit = 0; habit < 4; habit++) {
            int extinct = habit;
            EDGES.throwing("31: no holder of " + habit, Edges.ELEMENT, EdgesOfHabitsTest::allExtinct,
                    other -> other.holderOf(extinct));
            EDGES.answers("30: no strength of " + habit, 0, allExtinct(), other -> other.strengthOf(extinct));
            EDGES.answers("32: extinct, " + habit, "true", allExtinct(), other -> other.isExtinct(extinct));
            EDGES.answers("33: not entailed, " + habit, "false", allExtinct(), other -> other.isEntailed(extinct));
            EDGES.answers("34: not practised, " + habit, "false", allExtinct(), other -> other.isPractised(extinct));
            EDGES.rejecting("24: extinct, " + habit, HabitRegistry.EXTINCT, habit, EdgesOfHabitsTest::allExtinct,
                    other -> other.neglect(extinct));
        }
        EDGES.answers("31: the holder with the index 0", 0, Edges.lived(), other -> other.holderOf(2));
        EDGES.answers("32: not extinct with the strength 1", "false", Edges.lived(), other -> other.isExtinct(4));
        EDGES.answers("33: entailed", "true", Edges.lived(), other -> other.isEntailed(2));
        EDGES.answers("33: not entailed", "false", Edges.lived(), other -> other.isEntailed(0));
        HabitRegistry registry = Edges.lived();
        EDGES.answers("34: practised", "true", registry, other -> other.isPractised(2));
        EDGES.answers("34: not practised", "false", registry, other -> other.isPractised(0));
        registry.passYears(1);
        EDGES.answers("34: not since the latest year began", "false", registry, other -> other.isPractised(2));
        registry.practise(2);
        EDGES.answers("34: in the second year", "true", registry, other -> other.isPractised(2));
    }

    private static void promise35() {
        EDGES.asksForPerson("35: a habit", (registry, person) -> registry.habitOf(person, 'd'));
        for (char kind : NO_KINDS) {
            EDGES.throwing("35: no kind " + (int) kind, Edges.ARGUMENT, Edges::lived,
                    other -> other.habitOf(0, kind));
            EDGES.throwing("35: no kind is named ahead of no habit, " + (int) kind, Edges.ARGUMENT, Edges::lived,
                    other -> other.habitOf(7, kind));
        }
        EDGES.throwing("35: no person is named ahead of no kind", Edges.INDEX, Edges::lived,
                other -> other.habitOf(9, 'x'));
        EDGES.throwing("35: no habits", Edges.ELEMENT, Edges::lived, other -> other.habitOf(2, 'd'));
        EDGES.throwing("35: a habit of another kind", Edges.ELEMENT, Edges::lived, other -> other.habitOf(4, 's'));
        EDGES.throwing("35: an extinct habit of the kind", Edges.ELEMENT, Edges::lived,
                other -> other.habitOf(0, 'h'));
        EDGES.throwing("35: a dead person", Edges.ELEMENT, Edges::lived, other -> other.habitOf(8, 'd'));
        EDGES.answers("35: the index 0", 0, Edges.lived(), other -> other.habitOf(0, 'd'));
        EDGES.answers("35: the other kind", 2, Edges.lived(), other -> other.habitOf(0, 's'));
        EDGES.answers("35: the last habit of one kind", 19, Edges.fullOfHabits(), other -> other.habitOf(0, 'd'));
    }

    private static void promise36() {
        EDGES.asksForPerson("36: the sum", HabitRegistry::habitStrength);
        EDGES.answers("36: no habits", 0, Edges.lived(), other -> other.habitStrength(2));
        EDGES.answers("36: a dead person", 0, Edges.lived(), other -> other.habitStrength(8));
        EDGES.answers("36: without the extinct one", 8, Edges.lived(), other -> other.habitStrength(0));
        HabitRegistry most = Checks.after("f;a0d9;a0s9;a0h9");
        EDGES.answers("36: the greatest sum", 27, most, other -> other.habitStrength(0));
    }

    private static void promises37And38() {
        for (int years : NO_DIGITS) {
            EDGES.throwing("37: no number of years " + years, Edges.ARGUMENT, Edges::lived,
                    other -> other.passYears(years));
            EDGES.throwing("37: no number of years, without people " + years, Edges.ARGUMENT, Edges::unborn,
                    other -> other.passYears(years));
        }
        EDGES.throwingText("y0", Edges::livedWithoutInput);
        EDGES.throwingText("y0", Edges::unborn);
        HabitRegistry empty = new HabitRegistry();
        EDGES.answers("38: no year yet", 0, empty, HabitRegistry::year);
        EDGES.answers("37: the most years, without habits", 0, empty, other -> other.passYears(9));
        EDGES.answers("38: the most years", 9, empty, HabitRegistry::year);
        EDGES.answers("37: the fewest years", 0, empty, other -> other.passYears(1));
        EDGES.answers("38: all years", 10, empty, HabitRegistry::year);
        EDGES.answers("37: one year", 1, Edges.lived(), other -> other.passYears(1));
        EDGES.answers("37: two years", 2, Edges.lived(), other -> other.passYears(2));
        EDGES.answers("37: three years", 2, Edges.lived(), other -> other.passYears(3));
        EDGES.answers("37: four years, a practised habit of 3 and one of 4", 4, Edges.lived(),
                other -> other.passYears(4));
        EDGES.answers("37: eight years", 5, Edges.lived(), other -> other.passYears(8));
        EDGES.answers("37: nine years", 6, Edges.lived(), other -> other.passYears(9));
        HabitRegistry full = Checks.after("f;a0d8;p0");
        EDGES.answers("37: a practised habit of 9 outlives nine years", 0, full, other -> other.passYears(9));
        EDGES.answers("37: its strength then", 1, full, other -> other.strengthOf(0));
        EDGES.answers("37: none is practised any more", "false", full, other -> other.isPractised(0));
        EDGES.answers("37: and ends in the tenth", 1, full, other -> other.passYears(1));
        EDGES.answers("37: extinct habits do not end again", 0, full, other -> other.passYears(9));
        EDGES.answers("40: nor count again", 1, full, HabitRegistry::lapsedCount);
    }

    private static void promise39() {
        EDGES.asksForHabit("39: years left", HabitRegistry::yearsLeft);
        EDGES.throwing("39: extinct", Edges.ELEMENT, Edges::lived, other -> other.yearsLeft(3));
        for (int habit = 0; habit < 4; habit++) {
            int extinct = habit;
            EDGES.throwing("39: extinct, " + habit, Edges.ELEMENT, EdgesOfHabitsTest::allExtinct,
                    other -> other.yearsLeft(extinct));
        }
        EDGES.answers("39: with the strength 1", 1, Edges.lived(), other -> other.yearsLeft(4));
        EDGES.answers("39: with the strength 9", 9, Edges.lived(), other -> other.yearsLeft(1));
        EDGES.answers("39: practised, with the strength 3", 4, Edges.lived(), other -> other.yearsLeft(2));
        HabitRegistry full = Checks.after("f;a0d8;p0");
        EDGES.answers("39: practised, with the strength 9", 10, full, other -> other.yearsLeft(0));
        HabitRegistry least = Checks.after("f;a0d2;p0;n0;n0");
        EDGES.answers("39: practised, with the strength 1", 2, least, other -> other.yearsLeft(0));
        least.passYears(1);
        EDGES.answers("39: a year later", 1, least, other -> other.yearsLeft(0));
        EDGES.answers("39: and extinct after it", 1, least, other -> other.passYears(1));
    }

    private static void promises40To42() {
        HabitRegistry empty = new HabitRegistry();
        EDGES.answers("40: none yet", 0, empty, HabitRegistry::lapsedCount);
        EDGES.answers("41: none yet", 0, empty, HabitRegistry::mergedCount);
        EDGES.answers("42: none yet", 0, empty, HabitRegistry::brokenCount);
        HabitRegistry registry = allExtinct();
        EDGES.answers("40: neglected, and weak with the years", 2, registry, HabitRegistry::lapsedCount);
        EDGES.answers("41: merged", 1, registry, HabitRegistry::mergedCount);
        EDGES.answers("42: broken", 1, registry, HabitRegistry::brokenCount);
        HabitRegistry lapsed = Edges.fullOfHabits();
        EDGES.answers("40: nineteen neglected", 19, lapsed, HabitRegistry::lapsedCount);
        Checks.execute(lapsed, "n19;n19;n19");
        EDGES.answers("40: twenty neglected", 20, lapsed, HabitRegistry::lapsedCount);
        HabitRegistry years = Checks.after("f;a0d1;a0s1;a0h1;y1");
        EDGES.answers("40: three with the years", 3, years, HabitRegistry::lapsedCount);
        EDGES.answers("41: none of them is merged", 0, years, HabitRegistry::mergedCount);
        EDGES.answers("42: none of them is broken", 0, years, HabitRegistry::brokenCount);
        HabitRegistry broken = Checks.after("f;a0d1;a0s1;a0h1;b0");
        EDGES.answers("42: three without an heir", 3, broken, HabitRegistry::brokenCount);
        EDGES.answers("40: none of them has lapsed", 0, broken, HabitRegistry::lapsedCount);
        HabitRegistry entailed = Checks.after("f;c0;c1;a1d1;a1s1;e0;b2;b1");
        EDGES.answers("42: entailed, without a direct heir", 1, entailed, HabitRegistry::brokenCount);
        HabitRegistry merged = Checks.after("f;c0;a0d1;a0s1;a0h1;a1d1;a1s1;a1h1;b0");
        EDGES.answers("41: three merged", 3, merged, HabitRegistry::mergedCount);
        EDGES.answers("42: none of them is broken", 0, merged, HabitRegistry::brokenCount);
    }

    private static void promises43And44() {
        Object[][] rows = {{Edges.unborn(), 0, "nothing"}, {Checks.after("f;c0"), 0, "no habits"},
            {allExtinct(), 0, "extinct habits"}, {Edges.lived(), 24, "some habits"},
            {Edges.fullOfHabits(), 3, "one of twenty"}};
        for (Object[] row : rows) {
            HabitRegistry registry = (HabitRegistry) row[0];
            EDGES.answers("43: sum of " + row[2], row[1], registry, HabitRegistry::totalStrength);
            EDGES.answers("44: sum of " + row[2], row[1], registry, HabitRegistry::totalStrengthByPeople);
        }
        EDGES.answers("43: the greatest sum", 180, strongest(), HabitRegistry::totalStrength);
        EDGES.answers("44: the greatest sum", 180, strongest(), HabitRegistry::totalStrengthByPeople);
    }

    /** Twenty habits with the strength 9. */
    private static HabitRegistry strongest() {
        HabitRegistry registry = new HabitRegistry();
        for (int person = 0; person < 7; person++) {
            registry.addFounder();
            registry.addHabit(person, 'd', 9);
            registry.addHabit(person, 's', 9);
            if (person < 6) {
                registry.addHabit(person, 'h', 9);
            }
        }
        return registry;
    }

    private static void promise45() {
        int[] due = {1, 0, 6, 2, 5, 4};
        for (int position = 0; position < due.length; position++) {
            int asked = position;
            EDGES.answers("45: position " + position, due[position], Edges.lived(),
                    other -> other.habitByStrength(asked));
        }
        for (int position : new int[] {-1, 6, 7, 20, Integer.MIN_VALUE, Integer.MAX_VALUE}) {
            EDGES.throwing("45: no position " + position, Edges.ELEMENT, Edges::lived,
                    other -> other.habitByStrength(position));
        }
        EDGES.throwing("45: no habits", Edges.ELEMENT, Edges::unborn, other -> other.habitByStrength(0));
        EDGES.throwing("45: extinct habits alone", Edges.ELEMENT, EdgesOfHabitsTest::allExtinct,
                other -> other.habitByStrength(0));
        EDGES.answers("45: one of twenty", 19, Edges.fullOfHabits(), other -> other.habitByStrength(0));
        EDGES.throwing("45: behind one of twenty", Edges.ELEMENT, Edges::fullOfHabits,
                other -> other.habitByStrength(1));
        HabitRegistry equal = Checks.after("f;f;a1d4;a0s4;a1h4;a0d4");
        for (int position = 0; position < 4; position++) {
            int asked = position;
            EDGES.answers("45: equal ones by index", position, equal, other -> other.habitByStrength(asked));
        }
    }

    private static void promise46() {
        int[] due = {1, 0, 5, 6, 4, 2, 3};
        for (int position = 0; position < due.length; position++) {
            int asked = position;
            EDGES.answers("46: position " + position, due[position], Edges.lived(),
                    other -> other.personByStrength(asked));
        }
        for (int position : new int[] {-1, 7, 8, 9, 16, Integer.MIN_VALUE, Integer.MAX_VALUE}) {
            EDGES.throwing("46: no position " + position, Edges.ELEMENT, Edges::lived,
                    other -> other.personByStrength(position));
        }
        EDGES.throwing("46: no people", Edges.ELEMENT, Edges::unborn, other -> other.personByStrength(0));
        EDGES.throwing("46: dead people alone", Edges.ELEMENT, EdgesOfHabitsTest::allExtinct,
                other -> other.personByStrength(0));
        EDGES.answers("46: the last of fifteen", 15, Edges.fullOfPeople(), other -> other.personByStrength(14));
        EDGES.throwing("46: behind the last of fifteen", Edges.ELEMENT, Edges::fullOfPeople,
                other -> other.personByStrength(15));
        HabitRegistry equal = Checks.after("f;c0;c1;f;c3;a2d3;a1s3;a3s1;a3h2;a0d1;a4h1");
        int[] byGeneration = {3, 1, 2, 0, 4};
        for (int position = 0; position < byGeneration.length; position++) {
            int asked = position;
            EDGES.answers("46: equal ones by generation", byGeneration[position], equal,
                    other -> other.personByStrength(asked));
        }
        int[] byIndex = {4, 5, 0, 3, 1, 2};
        HabitRegistry siblings = Checks.after("f;c0;c0;f;c3;c0;a5d2;a4h2");
        for (int position = 0; position < byIndex.length; position++) {
            int asked = position;
            EDGES.answers("46: equal ones of a generation by index", byIndex[position], siblings,
                    other -> other.personByStrength(asked));
        }
    }

    private static void promise47() {
        EDGES.throwing("47: no habits", Edges.ARITHMETIC, Edges::unborn, HabitRegistry::meanStrength);
        EDGES.throwing("47: people without habits", Edges.ARITHMETIC, () -> Checks.after("f;c0"),
                HabitRegistry::meanStrength);
        EDGES.throwing("47: extinct habits alone", Edges.ARITHMETIC, EdgesOfHabitsTest::allExtinct,
                HabitRegistry::meanStrength);
        EDGES.answers("47: of six", 24.0 / 6.0, Edges.lived(), HabitRegistry::meanStrength);
        EDGES.answers("47: of one that is not extinct", 3.0, Edges.fullOfHabits(), HabitRegistry::meanStrength);
        EDGES.answers("47: a third, as a double", 4.0 / 3.0, Checks.after("f;a0d1;a0s1;a0h2"),
                HabitRegistry::meanStrength);
        EDGES.answers("47: the greatest", 9.0, Checks.after("f;a0d9"), HabitRegistry::meanStrength);
    }

    private static void promise48() {
        EDGES.throwing("48: no people", Edges.ARITHMETIC, Edges::unborn, HabitRegistry::livingShare);
        EDGES.answers("48: seven of nine, as a float", 7.0f / 9.0f, Edges.lived(), HabitRegistry::livingShare);
        EDGES.answers("48: all are dead", 0.0f, allExtinct(), HabitRegistry::livingShare);
        EDGES.answers("48: all are alive", 1.0f, Checks.after("f;c0"), HabitRegistry::livingShare);
        EDGES.answers("48: fifteen of sixteen", 15.0f / 16.0f, Edges.fullOfPeople(), HabitRegistry::livingShare);
        EDGES.throwing("48: nobody again", Edges.ARITHMETIC, EdgesOfHabitsTest::nobodyAgain,
                HabitRegistry::livingShare);
    }

    private static HabitRegistry nobodyAgain() {
        HabitRegistry registry = Checks.after("f");
        registry.undo();
        return registry;
    }

    private static void promise49() {
        Edges.Past[] pasts = {Edges::unborn, Edges::lived, Edges::livedWithoutInput, Edges::fullOfPeople,
            Edges::fullOfHabits, EdgesOfHabitsTest::allExtinct};
        for (int past = 0; past < pasts.length; past++) {
            HabitRegistry registry = pasts[past].lived();
            String before = Edges.seen(registry);
            EDGES.answers("49: consistent, past " + past, "true", registry, HabitRegistry::isConsistent);
            CHECKS.dueText("49: asking changes nothing, past " + past, before, Edges.seen(registry));
        }
    }
}
