/**
 * Promises 5 to 21 and 49, and who inherits by promise 4: all forests of up to four people and all families of five and
 * six, with each choice of the living among them, asked for everything and compared with a Model.
 */
public final class EveryFamilyTest {
    private static final Checks CHECKS = new Checks("EveryFamilyTest");
    private static final int NOBODY = -1;

    private final int[] parents;
    private final int dead;
    private final HabitRegistry registry = new HabitRegistry();
    private final Model model = new Model();

    public static void main(String[] arguments) {
        for (int people = 0; people <= 4; people++) {
            grow(new int[people], 0, people);
        }
        grow(new int[5], 0, 1);
        grow(new int[6], 0, 1);
        CHECKS.end();
    }

    /** Chooses the parents from this person on; the first so many people may be founders. */
    private static void grow(int[] parents, int person, int mayFound) {
        if (person == parents.length) {
            for (int dead = 0; dead < 1 << parents.length; dead++) {
                new EveryFamilyTest(parents, dead).ask();
            }
            return;
        }
        for (int parent = person < mayFound ? NOBODY : 0; parent < person; parent++) {
            parents[person] = parent;
            grow(parents, person + 1, mayFound);
        }
    }

    private EveryFamilyTest(int[] parents, int dead) {
        this.parents = parents;
        this.dead = dead;
        for (int parent : parents) {
            if (parent == NOBODY) {
                registry.addFounder();
                model.addFounder();
            } else {
                registry.addChild(parent);
                model.addChild(parent);
            }
        }
        for (int person = 0; person < parents.length; person++) {
            if (isDead(person)) {
                registry.bury(person);
                model.bury(person);
            }
        }
    }

    private boolean isDead(int person) {
        return (dead >> person & 1) == 1;
    }

    private String told(String what, int... people) {
        return what + java.util.Arrays.toString(people) + " with the parents " + java.util.Arrays.toString(parents)
                + ", dead " + Integer.toBinaryString(dead);
    }

    private void ask() {
        CHECKS.due(told("peopleCount"), parents.length, registry.peopleCount());
        CHECKS.due(told("livingCount"), parents.length - Integer.bitCount(dead), registry.livingCount());
        CHECKS.due(told("isConsistent"), true, registry.isConsistent());
        for (int person = 0; person < parents.length; person++) {
            askForOne(person);
            askForHeirs(person);
            for (int other = 0; other < parents.length; other++) {
                askForTwo(person, other);
            }
        }
        registry.saveSnapshot();
        for (int person = 0; person < parents.length; person++) {
            if (!isDead(person)) {
                burial(person);
                registry.restoreSnapshot();
            }
        }
    }

    private void askForOne(int person) {
        CHECKS.due(told("isAlive", person), !isDead(person), registry.isAlive(person));
        CHECKS.due(told("isFounder", person), parents[person] == NOBODY, registry.isFounder(person));
        CHECKS.alike(told("parentOf", person), () -> model.parentOf(person), () -> registry.parentOf(person));
        CHECKS.due(told("childCount", person), model.childCount(person), registry.childCount(person));
        for (int position = 0; position < registry.childCount(person); position++) {
            int child = model.childAt(person, position);
            CHECKS.due(told("childAt", person, position), child, registry.childAt(person, position));
        }
        CHECKS.due(told("generation", person), model.generation(person), registry.generation(person));
        CHECKS.due(told("livingDescendants", person), model.livingDescendants(person),
                registry.livingDescendants(person));
    }

    private void askForHeirs(int person) {
        CHECKS.alike(told("heirOf", person), () -> model.heirOf(person), () -> registry.heirOf(person));
        CHECKS.alike(told("heirByComparison", person), () -> model.heirOf(person),
                () -> registry.heirByComparison(person));
        CHECKS.alike(told("directHeirOf", person), () -> model.directHeirOf(person),
                () -> registry.directHeirOf(person));
        CHECKS.due(told("successionPosition", person), model.successionPosition(person),
                registry.successionPosition(person));
    }

    private void askForTwo(int first, int second) {
        CHECKS.due(told("isAncestor", first, second), model.isAncestor(first, second),
                registry.isAncestor(first, second));
        CHECKS.alike(told("commonAncestor", first, second), () -> model.commonAncestor(first, second),
                () -> registry.commonAncestor(first, second));
        CHECKS.alike(told("distance", first, second), () -> model.distance(first, second),
                () -> registry.distance(first, second));
        CHECKS.alike(told("distanceBySearch", first, second), () -> model.distance(first, second),
                () -> registry.distanceBySearch(first, second));
    }

    /** Who inherits is who was named as the heir ahead of the burial, and is still named behind it. */
    private void burial(int person) {
        int free = registry.addHabit(person, 'd', 5);
        int bound = registry.addHabit(person, 's', 3);
        boolean hasDirectHeir = registry.livingDescendants(person) > 0;
        if (hasDirectHeir) {
            registry.entail(bound);
        }
        Checks.Call heir = () -> model.heirOf(person);
        Checks.Call heirOfBound = hasDirectHeir ? () -> model.directHeirOf(person) : heir;
        registry.bury(person);
        CHECKS.alike(told("holder of the habit of", person), heir, () -> registry.holderOf(free));
        CHECKS.alike(told("holder of the other habit of", person), heirOfBound, () -> registry.holderOf(bound));
        CHECKS.alike(told("heirOf the buried", person), heir, () -> registry.heirOf(person));
        CHECKS.due(told("isConsistent behind the burial of", person), true, registry.isConsistent());
    }
}
