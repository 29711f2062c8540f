import java.lang.reflect.Field;

/**
 * Promise 49: isConsistent. No call of the face makes the data inconsistent, so this test spoils the rows of an object
 * one by one, by the names that they bear inside the class.
 */
public final class ConsistencyTest {
    private static final Checks CHECKS = new Checks("ConsistencyTest");

    public static void main(String[] arguments) throws ReflectiveOperationException {
        CHECKS.due("sound", true, family().isConsistent());
        spoilHeirs();
        spoilDistances();
        spoilStrengths();
        spoilHolders();
        spoilKinds();
        CHECKS.end();
    }

    private static HabitRegistry family() {
        return Checks.after("f;c0;c0;c1;b1;a0d3;a0s2;a2d1;n2;f;c4");
    }

    private static void dueSpoiled(String what, HabitRegistry registry) {
        CHECKS.due(what, false, registry.isConsistent());
    }

    private static Object part(Object whole, String... names) throws ReflectiveOperationException {
        Object found = whole;
        for (String name : names) {
            Field field = found.getClass().getDeclaredField(name);
            field.setAccessible(true);
            found = field.get(found);
        }
        return found;
    }

    private static int[] numbers(HabitRegistry registry, String part, String row) throws ReflectiveOperationException {
        return (int[]) part(registry, "state", part, row);
    }

    private static void spoilHeirs() throws ReflectiveOperationException {
        HabitRegistry registry = family();
        int[] order = numbers(registry, "people", "order");
        order[2] = 2;
        order[3] = 4;
        order[4] = 5;
        order[5] = 3;
        dueSpoiled("a person behind the order of the own family", registry);
    }

    private static void spoilDistances() throws ReflectiveOperationException {
        HabitRegistry registry = family();
        numbers(registry, "people", "depths")[5]++;
        dueSpoiled("a generation that is wrong", registry);
    }

    private static void spoilStrengths() throws ReflectiveOperationException {
        HabitRegistry registry = family();
        numbers(registry, "habits", "strengths")[2] = 1;
        dueSpoiled("strength of nobody", registry);
    }

    private static void spoilHolders() throws ReflectiveOperationException {
        for (int habit = 0; habit < 2; habit++) {
            for (int holder : new int[] {1, -1, 6, 15, 16, Integer.MAX_VALUE}) {
                HabitRegistry registry = family();
                numbers(registry, "habits", "holders")[habit] = holder;
                dueSpoiled("habit " + habit + " held by " + holder + ", who is dead or not there", registry);
            }
        }
    }

    private static void spoilKinds() throws ReflectiveOperationException {
        HabitRegistry registry = family();
        ((char[]) part(registry, "state", "habits", "kinds"))[1] = 'd';
        dueSpoiled("two habits of one kind", registry);
        HabitRegistry last = family();
        last.addHabit(5, 'h', 1);
        last.addHabit(5, 's', 1);
        ((char[]) part(last, "state", "habits", "kinds"))[3] = 's';
        dueSpoiled("the last two habits are of one kind", last);
    }
}
