/** The edges that the promises 1 to 21 name, promise by promise: people and heirs. */
public final class EdgesOfPeopleTest {
    private static final Checks CHECKS = new Checks("EdgesOfPeopleTest");
    private static final Edges EDGES = new Edges(CHECKS);

    public static void main(String[] arguments) {
        promise1();
        promise2();
        promise3();
        promise4();
        promises5And6();
        promise7();
        promise8();
        promise9();
        promise10();
        promise11();
        promise12();
        promise13();
        promise14();
        promise15();
        promises16And17();
        promises18And19();
        promise20();
        promise21();
        CHECKS.end();
    }

    /** A new object: "a registry without people". */
    private static void promise1() {
        HabitRegistry registry = new HabitRegistry();
        CHECKS.dueText("1: nothing is there yet", "0 0 0 0 | | 0 | ", Edges.seen(registry));
        CHECKS.due("1: nobody lives", 0, registry.livingCount());
        CHECKS.due("1: no habits", 0, registry.habitCount());
        CHECKS.dueText("1: no rejection", "throws NoSuchElementException, throws NoSuchElementException, "
                + "throws NoSuchElementException", Edges.rejection(registry));
        CHECKS.dueText("1: no syntax error", "throws NoSuchElementException", Edges.syntaxError(registry));
        CHECKS.due("1: no input", 1, registry.appendInput('f'));
        HabitRegistry other = new HabitRegistry();
        registry.execute();
        CHECKS.due("1: what one object does is not seen in another", 0, other.peopleCount());
    }

    private static void promise2() {
        EDGES.answers("2: the first founder", 0, new HabitRegistry(), HabitRegistry::addFounder);
        EDGES.rejecting("2: founder behind 16 people", HabitRegistry.PEOPLE_LIMIT, 16, Edges::fullOfPeople,
                HabitRegistry::addFounder);
        EDGES.rejectingText("f", 0, HabitRegistry.PEOPLE_LIMIT, Edges::fullOfPeople);
        HabitRegistry registry = Edges.fullOfPeople();
        registry.undo();
        EDGES.answers("2: founder number 16 behind undo", 15, registry, HabitRegistry::addFounder);
        EDGES.answers("2: a founder has no parent", "true", registry, other -> other.isFounder(15));
    }

    private static void promise3() {
        EDGES.asksForPerson("3: a child", HabitRegistry::addChild);
        EDGES.rejecting("3: a child of a dead person", HabitRegistry.DEAD, 8, Edges::lived, other -> other.addChild(8));
        EDGES.rejecting("3: a child of a dead founder", HabitRegistry.DEAD, 7, Edges::lived,
                other -> other.addChild(7));
        EDGES.rejecting("3: a child behind 16 people", HabitRegistry.PEOPLE_LIMIT, 16, Edges::fullOfPeople,
                other -> other.addChild(15));
        EDGES.rejecting("3: DEAD is named ahead of PEOPLE_LIMIT", HabitRegistry.DEAD, 0, Edges::fullOfPeople,
                other -> other.addChild(0));
        EDGES.rejectingText("c8", 0, HabitRegistry.DEAD, Edges::livedWithoutInput);
        EDGES.rejectingText("c15", 0, HabitRegistry.PEOPLE_LIMIT, Edges::fullOfPeople);
        EDGES.rejectingText("c0", 0, HabitRegistry.DEAD, Edges::fullOfPeople);
        EDGES.throwingText("c9", Edges::livedWithoutInput);
        EDGES.throwingText("c16", Edges::fullOfPeople);
        EDGES.throwingText("c99", Edges::fullOfPeople);
        HabitRegistry registry = Edges.fullOfPeople();
        registry.undo();
        EDGES.answers("3: person number 16 behind undo", 15, registry, other -> other.addChild(3));
        EDGES.answers("3: its parent", 3, registry, other -> other.parentOf(15));
    }

    private static void promise4() {
        EDGES.asksForPerson("4: a burial", HabitRegistry::bury);
        EDGES.rejecting("4: a second burial", HabitRegistry.DEAD, 7, Edges::lived, other -> other.bury(7));
        EDGES.rejectingText("b7", 0, HabitRegistry.DEAD, Edges::livedWithoutInput);
        EDGES.throwingText("b9", Edges::livedWithoutInput);
        EDGES.answers("4: nothing to inherit", 0, Edges.lived(), other -> other.bury(3));
        EDGES.answers("4: nobody inherits, so none is counted", 0, Edges.lived(), other -> other.bury(6));
        EDGES.answers("4: one merged and one with a new holder", 2, Edges.lived(), other -> other.bury(0));
        HabitRegistry most = Checks.after("f;c0;a0d1;a0s1;a0h1;a1s1;e0");
        EDGES.answers("4: three habits, the most that a person holds", 3, most, other -> other.bury(0));
        HabitRegistry last = Checks.after("f;a0d1;a0s9");
        EDGES.answers("4: the last person", 0, last, other -> other.bury(0));
        EDGES.answers("4: nobody lives then", 0, last, HabitRegistry::livingCount);
    }

    private static void promises5And6() {
        HabitRegistry registry = new HabitRegistry();
        EDGES.answers("5: nobody yet", 0, registry, HabitRegistry::peopleCount);
        EDGES.answers("6: nobody yet", 0, registry, HabitRegistry::livingCount);
        HabitRegistry full = Edges.fullOfPeople();
        EDGES.answers("5: the dead count", 16, full, HabitRegistry::peopleCount);
        EDGES.answers("6: the dead do not count", 15, full, HabitRegistry::livingCount);
        for (int person = 1; person < 16; person++) {
            full.bury(person);
        }
        EDGES.answers("5: all are dead", 16, full, HabitRegistry::peopleCount);
        EDGES.answers("6: all are dead", 0, full, HabitRegistry::livingCount);
    }

    private static void promise7() {
        EDGES.asksForPerson("7: life", HabitRegistry::isAlive);
        EDGES.answers("7: a living person", "true", Edges.lived(), other -> other.isAlive(0));
        EDGES.answers("7: a dead person", "false", Edges.lived(), other -> other.isAlive(8));
    }

    private static void promise8() {
        EDGES.asksForPerson("8: being a founder", HabitRegistry::isFounder);
        EDGES.answers("8: the first person", "true", Edges.lived(), other -> other.isFounder(0));
        EDGES.answers("8: a dead founder", "true", Edges.lived(), other -> other.isFounder(7));
        EDGES.answers("8: a child of person 0", "false", Edges.lived(), other -> other.isFounder(1));
        EDGES.answers("8: the last child", "false", Edges.lived(), other -> other.isFounder(8));
    }

    private static void promise9() {
        EDGES.asksForPerson("9: the parent", HabitRegistry::parentOf);
        EDGES.throwing("9: parent of the first founder", Edges.ELEMENT, Edges::lived, other -> other.parentOf(0));
        EDGES.throwing("9: parent of a dead founder", Edges.ELEMENT, Edges::lived, other -> other.parentOf(7));
        EDGES.answers("9: parent with the index 0", 0, Edges.lived(), other -> other.parentOf(5));
        HabitRegistry orphan = Checks.after("f;c0;b0");
        EDGES.answers("9: a dead parent", 0, orphan, other -> other.parentOf(1));
    }

    private static void promise10() {
        EDGES.asksForPerson("10: the number of children", HabitRegistry::childCount);
        EDGES.answers("10: no children", 0, Edges.lived(), other -> other.childCount(4));
        EDGES.answers("10: a founder without children", 0, Edges.lived(), other -> other.childCount(7));
        EDGES.answers("10: a dead child counts", 1, Edges.lived(), other -> other.childCount(5));
        EDGES.answers("10: children of children do not count", 2, Edges.lived(), other -> other.childCount(0));
        EDGES.answers("10: fifteen children", 15, manyChildren(), other -> other.childCount(0));
    }

    private static HabitRegistry manyChildren() {
        HabitRegistry registry = new HabitRegistry();
        registry.addFounder();
        for (int child = 1; child < 16; child++) {
            registry.addChild(0);
        }
        return registry;
    }

    private static void promise11() {
        EDGES.asksForPerson("11: the first child", (registry, person) -> registry.childAt(person, 0));
        for (int position : new int[] {-1, 2, 15, Integer.MIN_VALUE, Integer.MAX_VALUE}) {
            EDGES.throwing("11: no position " + position, Edges.ELEMENT, Edges::lived,
                    other -> other.childAt(0, position));
            EDGES.throwing("11: no person is named ahead of no position " + position, Edges.INDEX, Edges::lived,
                    other -> other.childAt(9, position));
        }
        EDGES.throwing("11: no children", Edges.ELEMENT, Edges::lived, other -> other.childAt(6, 0));
        EDGES.answers("11: the first child", 1, Edges.lived(), other -> other.childAt(0, 0));
        EDGES.answers("11: the last child", 5, Edges.lived(), other -> other.childAt(0, 1));
        EDGES.answers("11: a dead child", 8, Edges.lived(), other -> other.childAt(5, 0));
        for (int position = 0; position < 15; position++) {
            int wanted = position;
            EDGES.answers("11: child by index", position + 1, manyChildren(), other -> other.childAt(0, wanted));
        }
        EDGES.throwing("11: behind the fifteenth child", Edges.ELEMENT, EdgesOfPeopleTest::manyChildren,
                other -> other.childAt(0, 15));
    }

    private static HabitRegistry longestLine() {
        HabitRegistry registry = new HabitRegistry();
        registry.addFounder();
        for (int person = 1; person < 16; person++) {
            registry.addChild(person - 1);
        }
        return registry;
    }

    private static void promise12() {
        EDGES.asksForPerson("12: the generation", HabitRegistry::generation);
        EDGES.answers("12: 0 for a founder", 0, Edges.lived(), other -> other.generation(0));
        EDGES.answers("12: 0 for a founder added later", 0, Edges.lived(), other -> other.generation(7));
        EDGES.answers("12: one more than the parent's", 2, Edges.lived(), other -> other.generation(8));
        EDGES.answers("12: the highest", 15, longestLine(), other -> other.generation(15));
    }

    private static void promise13() {
        EDGES.asksForPerson("13: living descendants", HabitRegistry::livingDescendants);
        EDGES.answers("13: no descendants", 0, Edges.lived(), other -> other.livingDescendants(4));
        EDGES.answers("13: no living descendants", 0, Edges.lived(), other -> other.livingDescendants(5));
        EDGES.answers("13: a person is no descendant of itself", 0, Edges.lived(),
                other -> other.livingDescendants(6));
        EDGES.answers("13: the dead do not count", 5, Edges.lived(), other -> other.livingDescendants(0));
        EDGES.answers("13: the most", 15, longestLine(), other -> other.livingDescendants(0));
        EDGES.answers("13: the most of one generation", 15, manyChildren(), other -> other.livingDescendants(0));
        HabitRegistry dead = Checks.after("f;c0;c1;b0;b1");
        EDGES.answers("13: those below the dead count", 1, dead, other -> other.livingDescendants(0));
    }

    private static void promise14() {
        EDGES.asksForPerson("14: the ancestor", (registry, person) -> registry.isAncestor(person, 0));
        EDGES.asksForPerson("14: the person", (registry, person) -> registry.isAncestor(0, person));
        EDGES.asksForPerson("14: one person twice", (registry, person) -> registry.isAncestor(person, person));
        EDGES.answers("14: no ancestor of itself", "false", Edges.lived(), other -> other.isAncestor(0, 0));
        EDGES.answers("14: nor a dead one", "false", Edges.lived(), other -> other.isAncestor(8, 8));
        EDGES.answers("14: the parent", "true", Edges.lived(), other -> other.isAncestor(5, 8));
        EDGES.answers("14: the founder", "true", Edges.lived(), other -> other.isAncestor(0, 4));
        EDGES.answers("14: not a descendant", "false", Edges.lived(), other -> other.isAncestor(4, 0));
        EDGES.answers("14: not a sibling", "false", Edges.lived(), other -> other.isAncestor(1, 5));
        EDGES.answers("14: not of another family", "false", Edges.lived(), other -> other.isAncestor(6, 4));
        EDGES.answers("14: over fifteen generations", "true", longestLine(), other -> other.isAncestor(0, 15));
    }

    private static void promise15() {
        EDGES.asksForPerson("15: the first", (registry, person) -> registry.commonAncestor(person, 0));
        EDGES.asksForPerson("15: the second", (registry, person) -> registry.commonAncestor(0, person));
        EDGES.asksForPerson("15: one person twice", (registry, person) -> registry.commonAncestor(person, person));
        EDGES.throwing("15: different families", Edges.ELEMENT, Edges::lived, other -> other.commonAncestor(0, 6));
        EDGES.throwing("15: two founders", Edges.ELEMENT, Edges::lived, other -> other.commonAncestor(7, 6));
        EDGES.throwing("15: deep in one family", Edges.ELEMENT, Edges::lived, other -> other.commonAncestor(4, 7));
        EDGES.throwing("15: no person is named ahead of the families", Edges.INDEX, Edges::lived,
                other -> other.commonAncestor(6, 9));
        EDGES.answers("15: a person and itself", 8, Edges.lived(), other -> other.commonAncestor(8, 8));
        EDGES.answers("15: a founder and itself", 7, Edges.lived(), other -> other.commonAncestor(7, 7));
        EDGES.answers("15: a person and its parent", 3, Edges.lived(), other -> other.commonAncestor(4, 3));
        EDGES.answers("15: the parent and the person", 3, Edges.lived(), other -> other.commonAncestor(3, 4));
        EDGES.answers("15: of two branches", 0, Edges.lived(), other -> other.commonAncestor(4, 8));
        EDGES.answers("15: the nearest one", 0, manyChildren(), other -> other.commonAncestor(1, 15));
        EDGES.answers("15: the farthest descendant", 0, longestLine(), other -> other.commonAncestor(15, 0));
    }

    private static void promises16And17() {
        Edges.Past past = Edges::lived;
        distanceByEachWay("16", HabitRegistry::distance, past);
        distanceByEachWay("17", HabitRegistry::distanceBySearch, past);
    }

    private interface PairCall {
        int on(HabitRegistry registry, int first, int second);
    }

    private static void distanceByEachWay(String promise, PairCall way, Edges.Past past) {
        EDGES.asksForPerson(promise + ": the first", (registry, person) -> way.on(registry, person, 0));
        EDGES.asksForPerson(promise + ": the second", (registry, person) -> way.on(registry, 0, person));
        EDGES.asksForPerson(promise + ": one twice", (registry, person) -> way.on(registry, person, person));
        int[][] families = {{0, 6}, {6, 0}, {7, 6}, {4, 7}, {6, 8}};
        for (int[] pair : families) {
            EDGES.throwing(promise + ": different families, " + pair[0] + " and " + pair[1], Edges.ELEMENT, past,
                    other -> way.on(other, pair[0], pair[1]));
        }
        EDGES.throwing(promise + ": no person is named ahead of the families", Edges.INDEX, past,
                other -> way.on(other, 6, 9));
        int[][] rows = {{0, 0, 0}, {8, 8, 0}, {7, 7, 0}, {0, 1, 1}, {1, 0, 1}, {1, 5, 2}, {0, 8, 2}, {4, 8, 6},
            {8, 4, 6}, {2, 5, 3}};
        for (int[] row : rows) {
            EDGES.answers(promise + ": " + row[0] + " and " + row[1], row[2], past.lived(),
                    other -> way.on(other, row[0], row[1]));
        }
        EDGES.answers(promise + ": the longest way", 15, longestLine(), other -> way.on(other, 15, 0));
        HabitRegistry twoArms = Checks.after("f;c0;c1;c2;c3;c4;c5;c6;c0;c8;c9;c10;c11;c12;c13");
        twoArms.addChild(14);
        EDGES.answers(promise + ": the longest way up and down", 15, twoArms, other -> way.on(other, 7, 15));
    }

    private interface HeirCall {
        int on(HabitRegistry registry, int person);
    }

    private static void promises18And19() {
        heirByEachWay("18", HabitRegistry::heirOf);
        heirByEachWay("19", HabitRegistry::heirByComparison);
    }

    private static void heirByEachWay(String promise, HeirCall way) {
        EDGES.asksForPerson(promise + ": the heir", way::on);
        EDGES.throwing(promise + ": a person alone", Edges.ELEMENT, Edges::lived, other -> way.on(other, 6));
        EDGES.throwing(promise + ": a dead person alone", Edges.ELEMENT, Edges::lived, other -> way.on(other, 7));
        EDGES.throwing(promise + ": the last living one of a family", Edges.ELEMENT,
                () -> Checks.after("f;c0;c1;f;b0;b2"), other -> way.on(other, 1));
        EDGES.throwing(promise + ": all of the family are dead", Edges.ELEMENT, () -> Checks.after("f;c0;b0;f;b1"),
                other -> way.on(other, 1));
        Object[][] rows = {
            {"the direct heir, if there is one", "f;c0;c1;c0", 1, 2},
            {"the direct heir ahead of the parent and older siblings", "f;c0;c0;c2", 2, 3},
            {"otherwise the parent if it is alive", "f;c0;c0", 1, 0},
            {"otherwise the first living descendant of the parent", "f;c0;c0;c0;b0", 2, 1},
            {"other than the person itself", "f;c0;c0;b0", 1, 2},
            {"a descendant of the parent below a dead sibling", "f;c0;c0;c2;b2;b0", 1, 3},
            {"a nephew ahead of a younger sibling", "f;c0;c0;c0;c1;b1;b0", 3, 4},
            {"then the parent of the parent", "f;c0;c1;b1", 2, 0},
            {"then its first living descendant", "f;c0;c1;c0;b1;b0", 2, 3},
            {"which is not the person, though it comes first", "f;c0;c1;c0;c3;b1;b0;b3", 2, 4},
            {"up to the founder", "f;c0;c1;c2;c3;b1;b2;b3", 4, 0},
            {"a sibling ahead of the living grandparent", "f;c0;c1;c1;b1", 2, 3},
            {"the heir of a dead person", "f;c0;b0", 0, 1},
            {"the heir of a dead person is its living parent", "f;c0;b1", 1, 0},
        };
        for (Object[] row : rows) {
            HabitRegistry registry = Checks.after((String) row[1]);
            EDGES.answers(promise + ": " + row[0], row[3], registry, other -> way.on(other, (Integer) row[2]));
        }
        inheritsIfBuried(promise, way);
    }

    /** "Who would inherit a habit without entail if the person was buried now." */
    private static void inheritsIfBuried(String promise, HeirCall way) {
        for (int person = 0; person < 8; person++) {
            HabitRegistry registry = Checks.after("f;c0;c0;c1;c2;c1;c4;c0;b1;b4");
            int buried = person;
            if (registry.isAlive(person)) {
                registry.addHabit(person, 'h', 1);
                int heir = way.on(registry, person);
                registry.bury(person);
                EDGES.answers(promise + ": who inherits from " + person, heir, registry, other -> other.holderOf(0));
                EDGES.answers(promise + ": asked again, " + person, heir, registry, other -> way.on(other, buried));
            }
        }
    }

    private static void promise20() {
        EDGES.asksForPerson("20: the direct heir", HabitRegistry::directHeirOf);
        EDGES.throwing("20: no descendant", Edges.ELEMENT, Edges::lived, other -> other.directHeirOf(4));
        EDGES.throwing("20: no living descendant", Edges.ELEMENT, Edges::lived, other -> other.directHeirOf(5));
        EDGES.throwing("20: a dead founder alone", Edges.ELEMENT, Edges::lived, other -> other.directHeirOf(7));
        EDGES.answers("20: the first child", 1, Edges.lived(), other -> other.directHeirOf(0));
        HabitRegistry dead = Checks.after("f;c0;c0;c1;b1;b0");
        EDGES.answers("20: below a dead child, of a dead person", 3, dead, other -> other.directHeirOf(0));
    }

    private static void promise21() {
        EDGES.asksForPerson("21: the position", HabitRegistry::successionPosition);
        EDGES.answers("21: 0 for the founder", 0, Edges.lived(), other -> other.successionPosition(0));
        EDGES.answers("21: 0 for a founder added later", 0, Edges.lived(), other -> other.successionPosition(7));
        EDGES.answers("21: behind all descendants of the first child", 5, Edges.lived(),
                other -> other.successionPosition(5));
        EDGES.answers("21: the last of a line", 15, longestLine(), other -> other.successionPosition(15));
        EDGES.answers("21: the last of many children", 15, manyChildren(), other -> other.successionPosition(15));
        HabitRegistry late = Checks.after("f;c0;c0;c2;c1;c4");
        int[] due = {0, 1, 4, 5, 2, 3};
        for (int person = 0; person < due.length; person++) {
            int asked = person;
            EDGES.answers("21: position of " + person, due[person], late, other -> other.successionPosition(asked));
        }
    }
}
