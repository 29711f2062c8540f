/** Promises 18 to 21: heirs in two ways, direct heirs and the order of succession. */
public final class HeirsTest {
    private static final Checks CHECKS = new Checks("HeirsTest");

    public static void main(String[] arguments) {
        heirs();
        heirsOverDeadAncestors();
        wrongIndices();
        directHeirs();
        positions();
        CHECKS.end();
    }

    private static HabitRegistry family() {
        return Checks.after("f;c0;c0;c1;c1;c2;f;c5;c1");
    }

    private static void dueHeir(HabitRegistry registry, int person, int want) {
        CHECKS.due("heir of " + person, want, registry.heirOf(person));
        CHECKS.due("heir of " + person + " by comparison", want, registry.heirByComparison(person));
    }

    private static void dueNoHeir(HabitRegistry registry, int person) {
        CHECKS.noElement("no heir of " + person, () -> registry.heirOf(person));
        CHECKS.noElement("no heir of " + person + " by comparison", () -> registry.heirByComparison(person));
    }

    private static void heirs() {
        HabitRegistry registry = family();
        dueHeir(registry, 0, 1);
        dueHeir(registry, 1, 3);
        dueHeir(registry, 3, 1);
        dueHeir(registry, 5, 7);
        dueNoHeir(registry, 6);
        registry.bury(1);
        dueHeir(registry, 0, 3);
        dueHeir(registry, 1, 3);
        dueHeir(registry, 3, 4);
        dueHeir(registry, 4, 3);
        dueHeir(registry, 8, 3);
        registry.bury(3);
        dueHeir(registry, 3, 4);
        registry.bury(4);
        dueHeir(registry, 8, 0);
        registry.bury(8);
        dueHeir(registry, 1, 0);
        dueHeir(registry, 0, 2);
    }

    private static void heirsOverDeadAncestors() {
        HabitRegistry registry = family();
        registry.bury(5);
        registry.bury(2);
        registry.bury(0);
        dueHeir(registry, 7, 1);
        dueHeir(registry, 1, 3);
        registry.bury(1);
        dueHeir(registry, 7, 3);
        dueHeir(registry, 3, 4);
        registry.bury(3);
        registry.bury(4);
        registry.bury(8);
        dueNoHeir(registry, 7);
        dueHeir(registry, 3, 7);
        dueHeir(registry, 0, 7);
        registry.bury(7);
        dueNoHeir(registry, 0);
        dueNoHeir(registry, 7);
    }

    private static void wrongIndices() {
        HabitRegistry registry = family();
        for (int wrong : new int[] {-1, 9, Integer.MIN_VALUE, Integer.MAX_VALUE}) {
            CHECKS.noIndex("heir of " + wrong, () -> registry.heirOf(wrong));
            CHECKS.noIndex("heir by comparison of " + wrong, () -> registry.heirByComparison(wrong));
            CHECKS.noIndex("direct heir of " + wrong, () -> registry.directHeirOf(wrong));
            CHECKS.noIndex("position of " + wrong, () -> registry.successionPosition(wrong));
        }
    }

    private static void directHeirs() {
        HabitRegistry registry = family();
        CHECKS.due("direct heir of 0", 1, registry.directHeirOf(0));
        CHECKS.due("direct heir of 2", 5, registry.directHeirOf(2));
        CHECKS.noElement("no direct heir of 8", () -> registry.directHeirOf(8));
        registry.bury(5);
        CHECKS.due("the next generation", 7, registry.directHeirOf(2));
        registry.bury(7);
        CHECKS.noElement("all below are dead", () -> registry.directHeirOf(2));
        registry.bury(2);
        CHECKS.noElement("of a dead person", () -> registry.directHeirOf(2));
        registry.bury(1);
        CHECKS.due("descendants of the first child come ahead", 3, registry.directHeirOf(0));
    }

    private static void positions() {
        HabitRegistry registry = family();
        int[] due = {0, 1, 5, 2, 3, 6, 0, 7, 4};
        for (int person = 0; person < due.length; person++) {
            CHECKS.due("position of " + person, due[person], registry.successionPosition(person));
        }
        registry.bury(3);
        CHECKS.due("the dead keep their position", 2, registry.successionPosition(3));
        CHECKS.due("and count in it", 3, registry.successionPosition(4));
    }
}
