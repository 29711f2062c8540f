/** Promises 22 to 36: habits, what is done with them, and what they tell. */
public final class HabitsTest {
    private static final Checks CHECKS = new Checks("HabitsTest");

    public static void main(String[] arguments) {
        adding();
        addingWrongly();
        habitLimit();
        practising();
        neglecting();
        entailing();
        breaking();
        giving();
        givingWrongly();
        telling();
        habitsOfPeople();
        noSuchHabit();
        CHECKS.end();
    }

    private static void adding() {
        HabitRegistry registry = Checks.after("f;c0");
        CHECKS.due("the first habit", 0, registry.addHabit(0, 'd', 1));
        CHECKS.due("the second habit", 1, registry.addHabit(0, 's', 9));
        CHECKS.due("the third habit", 2, registry.addHabit(0, 'h', 5));
        CHECKS.due("the same kind of another person", 3, registry.addHabit(1, 'd', 2));
        CHECKS.dueText("what was added", "-1 0 0d1 0s9 0h5 1d2 0 0 0 0", Checks.data(registry));
        registry.neglect(0);
        CHECKS.due("the same kind again after the first is extinct", 4, registry.addHabit(0, 'd', 7));
    }

    private static void addingWrongly() {
        HabitRegistry registry = Checks.after("f;f;b1;a0d4");
        CHECKS.noIndex("habit of 2", () -> registry.addHabit(2, 'x', 0));
        CHECKS.noIndex("habit of -1", () -> registry.addHabit(-1, 'd', 1));
        for (char kind : new char[] {'x', 'D', 'c', 'e', 'g', 'i', 'r', 't', (char) 0, (char) 356, (char) 65535}) {
            CHECKS.badArgument("kind " + (int) kind, () -> registry.addHabit(1, kind, 1));
            CHECKS.badArgument("habit of kind " + (int) kind, () -> registry.habitOf(0, kind));
        }
        for (int strength : new int[] {0, 10, -1, Integer.MIN_VALUE, Integer.MAX_VALUE}) {
            CHECKS.badArgument("strength " + strength, () -> registry.addHabit(1, 's', strength));
        }
        CHECKS.noElement("none of this is a rejection", registry::rejectionReason);
        CHECKS.rejected("habit of the dead", registry, HabitRegistry.DEAD, 1, () -> registry.addHabit(1, 'd', 1));
        CHECKS.rejected("has the kind", registry, HabitRegistry.HAS_KIND, 0, () -> registry.addHabit(0, 'd', 1));
        CHECKS.due("habits", 1, registry.habitCount());
    }

    private static void habitLimit() {
        HabitRegistry registry = Checks.after("f;f");
        for (int habit = 0; habit < 19; habit++) {
            registry.addHabit(0, 'd', 1);
            registry.neglect(habit);
        }
        CHECKS.due("the last habit", 19, registry.addHabit(0, 'd', 3));
        CHECKS.rejected("one more", registry, HabitRegistry.HABIT_LIMIT, 20, () -> registry.addHabit(0, 's', 1));
        CHECKS.rejected("the kind first", registry, HabitRegistry.HAS_KIND, 19, () -> registry.addHabit(0, 'd', 1));
        registry.bury(1);
        CHECKS.rejected("the dead first", registry, HabitRegistry.DEAD, 1, () -> registry.addHabit(1, 'd', 1));
    }

    private static void practising() {
        HabitRegistry registry = Checks.after("f;a0d7");
        CHECKS.due("stronger", 8, registry.practise(0));
        CHECKS.due("practised", true, registry.isPractised(0));
        CHECKS.due("stronger again", 9, registry.practise(0));
        CHECKS.rejected("full", registry, HabitRegistry.FULL_STRENGTH, 9, () -> registry.practise(0));
        registry.passYears(1);
        CHECKS.due("not weaker", 9, registry.strengthOf(0));
        CHECKS.rejected("full again", registry, HabitRegistry.FULL_STRENGTH, 9, () -> registry.practise(0));
        CHECKS.due("a rejected call practises nothing", false, registry.isPractised(0));
        registry.bury(0);
        CHECKS.rejected("extinct", registry, HabitRegistry.EXTINCT, 0, () -> registry.practise(0));
    }

    private static void neglecting() {
        HabitRegistry registry = Checks.after("f;c0;a0d2;e0;p0");
        CHECKS.due("weaker", 2, registry.neglect(0));
        CHECKS.due("still practised", true, registry.isPractised(0));
        CHECKS.due("still entailed", true, registry.isEntailed(0));
        registry.neglect(0);
        CHECKS.due("weak to the end", 0, registry.neglect(0));
        CHECKS.due("extinct", true, registry.isExtinct(0));
        CHECKS.due("not practised any more", false, registry.isPractised(0));
        CHECKS.due("not entailed any more", false, registry.isEntailed(0));
        CHECKS.due("lapsed", 1, registry.lapsedCount());
        CHECKS.rejected("extinct", registry, HabitRegistry.EXTINCT, 0, () -> registry.neglect(0));
        HabitRegistry idle = Checks.after("f;a0d2;n0");
        CHECKS.due("not practised by neglect", false, idle.isPractised(0));
    }

    private static void entailing() {
        HabitRegistry registry = Checks.after("f;f;c1;a0d2;a1d3;p1");
        CHECKS.rejected("no child", registry, HabitRegistry.NO_DIRECT_HEIR, 0, () -> registry.entail(0));
        CHECKS.due("the holder", 1, registry.entail(1));
        CHECKS.due("entailed", true, registry.isEntailed(1));
        CHECKS.due("the strength stays", 4, registry.strengthOf(1));
        CHECKS.due("the practice stays", true, registry.isPractised(1));
        CHECKS.rejected("twice", registry, HabitRegistry.ENTAILED, 1, () -> registry.entail(1));
        registry.bury(2);
        CHECKS.rejected("entailed first", registry, HabitRegistry.ENTAILED, 1, () -> registry.entail(1));
        registry.breakEntail(1);
        CHECKS.rejected("dead child", registry, HabitRegistry.NO_DIRECT_HEIR, 1, () -> registry.entail(1));
        registry.bury(1);
        CHECKS.rejected("extinct", registry, HabitRegistry.EXTINCT, 1, () -> registry.entail(1));
    }

    private static void breaking() {
        HabitRegistry registry = Checks.after("f;c0;a0d7;a0s8;a0h1;e0;e1;e2;p0");
        CHECKS.due("half of 8", 4, registry.breakEntail(0));
        CHECKS.due("still practised", true, registry.isPractised(0));
        CHECKS.due("not entailed", false, registry.isEntailed(0));
        CHECKS.due("half of 8 again", 4, registry.breakEntail(1));
        CHECKS.due("not practised", false, registry.isPractised(1));
        CHECKS.due("half of 1 rounded up", 1, registry.breakEntail(2));
        CHECKS.rejected("twice", registry, HabitRegistry.NOT_ENTAILED, 0, () -> registry.breakEntail(0));
        HabitRegistry odd = Checks.after("f;c0;a0d7;e0");
        CHECKS.due("half of 7 rounded up", 4, odd.breakEntail(0));
        odd.addHabit(0, 's', 1);
        odd.neglect(1);
        CHECKS.rejected("extinct", odd, HabitRegistry.EXTINCT, 1, () -> odd.breakEntail(1));
    }

    private static void giving() {
        HabitRegistry registry = Checks.after("f;c0;c1;c2;a0d5;p0;a1s2");
        CHECKS.due("three steps down", 3, registry.give(0, 3));
        CHECKS.due("the new holder", 3, registry.holderOf(0));
        CHECKS.due("the strength stays", 6, registry.strengthOf(0));
        CHECKS.due("the practice stays", true, registry.isPractised(0));
        CHECKS.due("no entail", false, registry.isEntailed(0));
        CHECKS.due("one step up", 1, registry.give(0, 2));
        CHECKS.due("to one with another kind", 1, registry.give(0, 1));
        CHECKS.due("the other habit stays", 1, registry.holderOf(1));
        CHECKS.due("not practised by a gift", false, registry.isPractised(1));
    }

    private static void givingWrongly() {
        HabitRegistry registry = Checks.after("f;c0;c1;c2;c3;f;a0d5;a1d2;a0s3;e2;c0;b6;a0h1;n3;a4d1;a5d1");
        CHECKS.noIndex("no such habit", () -> registry.give(6, 0));
        CHECKS.noIndex("habit -1", () -> registry.give(-1, 0));
        CHECKS.noIndex("no such person", () -> registry.give(3, 7));
        CHECKS.noIndex("person -1", () -> registry.give(0, -1));
        CHECKS.rejected("extinct", registry, HabitRegistry.EXTINCT, 3, () -> registry.give(3, 6));
        CHECKS.rejected("entailed", registry, HabitRegistry.ENTAILED, 2, () -> registry.give(2, 6));
        CHECKS.rejected("to the dead", registry, HabitRegistry.DEAD, 6, () -> registry.give(0, 6));
        CHECKS.rejected("to the holder", registry, HabitRegistry.SAME_HOLDER, 0, () -> registry.give(0, 0));
        CHECKS.rejected("too distant", registry, HabitRegistry.TOO_DISTANT, 4, () -> registry.give(0, 4));
        CHECKS.rejected("another family", registry, HabitRegistry.TOO_DISTANT, -1, () -> registry.give(0, 5));
        CHECKS.rejected("has the kind", registry, HabitRegistry.HAS_KIND, 1, () -> registry.give(0, 1));
        CHECKS.due("nothing was given", 0, registry.holderOf(0));
    }

    private static void telling() {
        HabitRegistry registry = Checks.after("f;c0;a0d5;a1s2;a0h9;e2;p1");
        CHECKS.due("habits", 3, registry.habitCount());
        CHECKS.due("kind d", 'd', registry.kindOf(0));
        CHECKS.due("kind s", 's', registry.kindOf(1));
        CHECKS.due("kind h", 'h', registry.kindOf(2));
        CHECKS.due("strength", 9, registry.strengthOf(2));
        CHECKS.due("holder", 1, registry.holderOf(1));
        CHECKS.due("not extinct", false, registry.isExtinct(0));
        CHECKS.due("entailed", true, registry.isEntailed(2));
        CHECKS.due("not entailed", false, registry.isEntailed(0));
        CHECKS.due("practised", true, registry.isPractised(1));
        CHECKS.due("not practised", false, registry.isPractised(0));
        registry.passYears(1);
        CHECKS.due("a year ends the practice", false, registry.isPractised(1));
        registry.passYears(9);
        CHECKS.due("an extinct habit counts", 3, registry.habitCount());
        CHECKS.due("an extinct habit has a kind", 's', registry.kindOf(1));
        CHECKS.due("an extinct habit has no strength", 0, registry.strengthOf(1));
        CHECKS.due("an extinct habit is extinct", true, registry.isExtinct(1));
        CHECKS.due("an extinct habit is not entailed", false, registry.isEntailed(2));
        CHECKS.noElement("an extinct habit has no holder", () -> registry.holderOf(1));
    }

    private static void habitsOfPeople() {
        HabitRegistry registry = Checks.after("f;c0;a0d1;n0;a1s2;a0h9;a0d4");
        CHECKS.due("the living one of the kind", 3, registry.habitOf(0, 'd'));
        CHECKS.due("habit of another person", 1, registry.habitOf(1, 's'));
        CHECKS.noElement("no habit of this kind", () -> registry.habitOf(0, 's'));
        CHECKS.noIndex("person -1, and no kind", () -> registry.habitOf(-1, 'x'));
        CHECKS.noIndex("person 2", () -> registry.habitOf(2, 'd'));
        CHECKS.due("sum of 0", 13, registry.habitStrength(0));
        CHECKS.due("sum of 1", 2, registry.habitStrength(1));
        registry.bury(0);
        CHECKS.due("sum of the dead", 0, registry.habitStrength(0));
        CHECKS.due("sum of the heir", 15, registry.habitStrength(1));
        CHECKS.noElement("habit of the dead", () -> registry.habitOf(0, 'd'));
        CHECKS.noIndex("sum of -1", () -> registry.habitStrength(-1));
        CHECKS.noIndex("sum of 2", () -> registry.habitStrength(2));
    }

    private static void noSuchHabit() {
        HabitRegistry registry = Checks.after("f;a0d1");
        for (int wrong : new int[] {-1, 1, Integer.MIN_VALUE, Integer.MAX_VALUE}) {
            CHECKS.noIndex("practise " + wrong, () -> registry.practise(wrong));
            CHECKS.noIndex("neglect " + wrong, () -> registry.neglect(wrong));
            CHECKS.noIndex("entail " + wrong, () -> registry.entail(wrong));
            CHECKS.noIndex("break " + wrong, () -> registry.breakEntail(wrong));
            CHECKS.noIndex("give " + wrong, () -> registry.give(wrong, 0));
            CHECKS.noIndex("give to " + wrong, () -> registry.give(0, wrong));
            CHECKS.noIndex("kind of " + wrong, () -> registry.kindOf(wrong));
            CHECKS.noIndex("strength of " + wrong, () -> registry.strengthOf(wrong));
            CHECKS.noIndex("holder of " + wrong, () -> registry.holderOf(wrong));
            CHECKS.noIndex("is extinct " + wrong, () -> Checks.bit(registry.isExtinct(wrong)));
            CHECKS.noIndex("is entailed " + wrong, () -> Checks.bit(registry.isEntailed(wrong)));
            CHECKS.noIndex("is practised " + wrong, () -> Checks.bit(registry.isPractised(wrong)));
            CHECKS.noIndex("years left of " + wrong, () -> registry.yearsLeft(wrong));
        }
        CHECKS.noElement("none of this is a rejection", registry::rejectionReason);
    }
}
