/** Promises 37 to 48: years, the ways to become extinct, totals and orders. */
public final class YearsAndTotalsTest {
    private static final Checks CHECKS = new Checks("YearsAndTotalsTest");

    public static void main(String[] arguments) {
        passing();
        passingWrongly();
        yearsLeft();
        waysToEnd();
        totals();
        habitsInOrder();
        peopleInOrder();
        means();
        shares();
        CHECKS.end();
    }

    private static void passing() {
        HabitRegistry registry = Checks.after("f;a0d2;a0s2;a0h5;p0;p2");
        CHECKS.due("nothing ends in the first year", 0, registry.passYears(1));
        CHECKS.due("practised: not weaker", 3, registry.strengthOf(0));
        CHECKS.due("not practised: weaker", 1, registry.strengthOf(1));
        CHECKS.due("practice ends", false, registry.isPractised(0));
        CHECKS.due("two end in three years", 2, registry.passYears(3));
        CHECKS.due("the third goes on", 3, registry.strengthOf(2));
        CHECKS.due("four years", 4, registry.year());
        CHECKS.due("the last one ends", 1, registry.passYears(9));
        CHECKS.due("thirteen years", 13, registry.year());
        CHECKS.due("nothing is left", 0, registry.passYears(1));
        HabitRegistry line = Checks.after("f;a0d1;a0s1;a0h1;p1;p2");
        CHECKS.due("a practised habit lasts a year longer", 1, line.passYears(2));
        CHECKS.due("strength after both years", 1, line.strengthOf(1));
    }

    private static void passingWrongly() {
        HabitRegistry registry = Checks.after("f;a0d2");
        for (int years : new int[] {0, 10, -1, Integer.MIN_VALUE, Integer.MAX_VALUE}) {
            CHECKS.badArgument("years " + years, () -> registry.passYears(years));
        }
        CHECKS.due("no year has passed", 0, registry.year());
        CHECKS.due("no change was made", 1, registry.undoCount());
    }

    private static void yearsLeft() {
        HabitRegistry registry = Checks.after("f;a0d8;a0s1;p1;p0");
        CHECKS.due("practised, strength 9", 10, registry.yearsLeft(0));
        CHECKS.due("practised, strength 2", 3, registry.yearsLeft(1));
        registry.passYears(1);
        CHECKS.due("not practised, strength 9", 9, registry.yearsLeft(0));
        CHECKS.due("not practised, strength 2", 2, registry.yearsLeft(1));
        registry.passYears(1);
        CHECKS.due("not extinct one year ahead", false, registry.isExtinct(1));
        registry.passYears(1);
        CHECKS.due("extinct in the year that was told", true, registry.isExtinct(1));
        CHECKS.noElement("none left", () -> registry.yearsLeft(1));
    }

    private static void waysToEnd() {
        HabitRegistry registry = Checks.after("f;c0;a0d3;a1d2;a0s1;a1h1;n2;b0;y1;b1");
        CHECKS.due("neglected, or weak with the years", 2, registry.lapsedCount());
        CHECKS.due("merged", 1, registry.mergedCount());
        CHECKS.due("no heir", 1, registry.brokenCount());
        registry.undo();
        CHECKS.due("lapsed after undo", 0, registry.lapsedCount());
        CHECKS.due("merged after undo", 0, registry.mergedCount());
        CHECKS.due("broken after undo", 0, registry.brokenCount());
    }

    private static void totals() {
        HabitRegistry registry = new HabitRegistry();
        CHECKS.due("no habits", 0, registry.totalStrength());
        CHECKS.due("no people", 0, registry.totalStrengthByPeople());
        Checks.execute(registry, "f;f;c0;a0d3;a1d2;a2s9;a2h4;n1;n1");
        CHECKS.due("sum of habits", 16, registry.totalStrength());
        CHECKS.due("sum of people", 16, registry.totalStrengthByPeople());
        registry.bury(2);
        CHECKS.due("sum of habits after a burial", 16, registry.totalStrength());
        CHECKS.due("sum of people after a burial", 16, registry.totalStrengthByPeople());
    }

    private static void habitsInOrder() {
        HabitRegistry registry = Checks.after("f;f;f;a0d3;a1d9;a0s1;a1s3;a0h9;n2;a1h1;a2d4");
        int[] due = {1, 4, 6, 0, 3, 5};
        for (int position = 0; position < due.length; position++) {
            CHECKS.due("habit at " + position, due[position], registry.habitByStrength(position));
        }
        CHECKS.noElement("extinct habits are left out", () -> registry.habitByStrength(6));
        CHECKS.noElement("habit at -1", () -> registry.habitByStrength(-1));
        CHECKS.noElement("habit at the highest int", () -> registry.habitByStrength(Integer.MAX_VALUE));
        CHECKS.noElement("no habits", () -> new HabitRegistry().habitByStrength(0));
    }

    private static void peopleInOrder() {
        HabitRegistry registry = Checks.after("f;c0;c1;f;c0;f;b5;a2d4;a3d2;a3s2;a1h5;a4d1;n4");
        int[] due = {1, 3, 2, 0, 4};
        for (int position = 0; position < due.length; position++) {
            CHECKS.due("person at " + position, due[position], registry.personByStrength(position));
        }
        CHECKS.noElement("the dead are left out", () -> registry.personByStrength(5));
        CHECKS.noElement("person at -1", () -> registry.personByStrength(-1));
        CHECKS.noElement("person at the highest int", () -> registry.personByStrength(Integer.MAX_VALUE));
        CHECKS.noElement("no people", () -> new HabitRegistry().personByStrength(0));
        HabitRegistry equal = Checks.after("f;c0;f;c2;c0");
        int[] byGeneration = {0, 2, 1, 3, 4};
        for (int position = 0; position < byGeneration.length; position++) {
            CHECKS.due("equal person at " + position, byGeneration[position], equal.personByStrength(position));
        }
    }

    private static void means() {
        HabitRegistry registry = Checks.after("f;f;a0d3;a1d9;a0s1;a1s1;n2");
        CHECKS.dueExactly("mean of three", 13.0 / 3.0, registry.meanStrength());
        registry.bury(0);
        registry.bury(1);
        CHECKS.badArithmetic("all are extinct", () -> (long) registry.meanStrength());
        CHECKS.badArithmetic("none at all", () -> (long) new HabitRegistry().meanStrength());
    }

    private static void shares() {
        HabitRegistry registry = Checks.after("f;f;c0;b1");
        CHECKS.dueExactly("2 of 3", 2.0f / 3.0f, registry.livingShare());
        registry.bury(0);
        registry.bury(2);
        CHECKS.dueExactly("0 of 3", 0.0, registry.livingShare());
        CHECKS.badArithmetic("no people", () -> (long) new HabitRegistry().livingShare());
    }
}
