/** Promises 1 to 17: a new object and the forest of people. */
public final class PeopleTest {
    private static final Checks CHECKS = new Checks("PeopleTest");

    /**
     * Two families; 0 has the children 1 and 2, 1 has 3 and 4, 2 has 5, 5 has 7; 6 is a founder alone, and 8 is a
     * child of 1 that is younger than 5 and 7.
     */
    private static HabitRegistry twoFamilies() {
        return Checks.after("f;c0;c0;c1;c1;c2;f;c5;c1");
    }

    public static void main(String[] arguments) {
        newObject();
        founders();
        children();
        burials();
        countsAndKinds();
        parentsAndChildren();
        generations();
        livingDescendants();
        ancestors();
        commonAncestors();
        distances();
        CHECKS.end();
    }

    private static void newObject() {
        HabitRegistry registry = new HabitRegistry();
        CHECKS.due("people at first", 0, registry.peopleCount());
        CHECKS.due("living people at first", 0, registry.livingCount());
        CHECKS.due("habits at first", 0, registry.habitCount());
        CHECKS.due("years at first", 0, registry.year());
        CHECKS.due("changes at first", 0, registry.undoCount());
        CHECKS.dueText("all data at first", "0 0 0 0", Checks.data(registry));
        CHECKS.due("a new object is consistent", true, registry.isConsistent());
        CHECKS.noElement("no rejection at first", registry::rejectionReason);
        CHECKS.noElement("no syntax error at first", registry::syntaxErrorOffset);
        CHECKS.badState("no snapshot at first", registry::restoreSnapshot);
    }

    private static void founders() {
        HabitRegistry registry = new HabitRegistry();
        for (int person = 0; person < 16; person++) {
            CHECKS.due("founder " + person, person, registry.addFounder());
            CHECKS.due("is a founder", true, registry.isFounder(person));
            CHECKS.due("is alive", true, registry.isAlive(person));
        }
        CHECKS.rejected("a 17th founder", registry, HabitRegistry.PEOPLE_LIMIT, 16, registry::addFounder);
        CHECKS.due("people at the limit", 16, registry.peopleCount());
    }

    private static void children() {
        HabitRegistry registry = Checks.after("f;f");
        CHECKS.due("a child", 2, registry.addChild(1));
        CHECKS.due("its parent", 1, registry.parentOf(2));
        CHECKS.noIndex("a child of -1", () -> registry.addChild(-1));
        CHECKS.noIndex("a child of 3", () -> registry.addChild(3));
        CHECKS.noIndex("a child of the lowest int", () -> registry.addChild(Integer.MIN_VALUE));
        CHECKS.noIndex("a child of the highest int", () -> registry.addChild(Integer.MAX_VALUE));
        registry.bury(1);
        CHECKS.rejected("a child of a dead person", registry, HabitRegistry.DEAD, 1, () -> registry.addChild(1));
        for (int person = 3; person < 16; person++) {
            CHECKS.due("a child of the one before", person, registry.addChild(person - 1));
        }
        CHECKS.due("generation of the last", 14, registry.generation(15));
        CHECKS.rejected("a 17th person", registry, HabitRegistry.PEOPLE_LIMIT, 16, () -> registry.addChild(0));
        CHECKS.rejected("dead is named first", registry, HabitRegistry.DEAD, 1, () -> registry.addChild(1));
        CHECKS.noIndex("no such person is asked first", () -> registry.addChild(16));
    }

    private static void burials() {
        HabitRegistry registry = Checks.after("f;c0;a0d3;a0s4;a1s2;a0h9;e3");
        CHECKS.due("two with a new holder and one merged", 3, registry.bury(0));
        CHECKS.due("is dead", false, registry.isAlive(0));
        CHECKS.due("holder of the first", 1, registry.holderOf(0));
        CHECKS.due("the second is merged", true, registry.isExtinct(1));
        CHECKS.due("the heir's habit is stronger", 6, registry.strengthOf(2));
        CHECKS.due("holder of the entailed", 1, registry.holderOf(3));
        CHECKS.due("the entail is kept", true, registry.isEntailed(3));
        CHECKS.rejected("dead twice", registry, HabitRegistry.DEAD, 0, () -> registry.bury(0));
        CHECKS.due("nobody inherits", 0, registry.bury(1));
        CHECKS.due("all broken", 3, registry.brokenCount());
        CHECKS.noIndex("burial of -1", () -> registry.bury(-1));
        CHECKS.noIndex("burial of 2", () -> registry.bury(2));
        mergedBurial();
        entailedBurial();
        CHECKS.due("no habits at all", 0, Checks.after("f").bury(0));
    }

    private static void mergedBurial() {
        HabitRegistry full = Checks.after("f;c0;c1;a0d6;a1d6;e1;p0");
        CHECKS.due("one merged", 1, full.bury(0));
        CHECKS.due("not stronger than 9", 9, full.strengthOf(1));
        CHECKS.due("the heir's habit keeps its entail", true, full.isEntailed(1));
        CHECKS.due("the heir's habit keeps its practice", false, full.isPractised(1));
        CHECKS.due("the merged one has no strength", 0, full.strengthOf(0));
        CHECKS.due("the merged one is not practised", false, full.isPractised(0));
        HabitRegistry entailed = Checks.after("f;c0;a0d2;a1d3;e0;p1");
        entailed.bury(0);
        CHECKS.due("the heir gets no entail", false, entailed.isEntailed(1));
        CHECKS.due("the merged one is not entailed", false, entailed.isEntailed(0));
        CHECKS.due("the heir's practice stays", true, entailed.isPractised(1));
        CHECKS.due("the sum of both", 6, entailed.strengthOf(1));
    }

    private static void entailedBurial() {
        HabitRegistry registry = Checks.after("f;c0;c1;a1d5;e0;a1s5;p0;p1;b2");
        CHECKS.due("only the habit without entail goes up", 1, registry.bury(1));
        CHECKS.due("entailed without a direct heir", true, registry.isExtinct(0));
        CHECKS.due("it is broken", 1, registry.brokenCount());
        CHECKS.due("it is not entailed any more", false, registry.isEntailed(0));
        CHECKS.due("it is not practised any more", false, registry.isPractised(0));
        CHECKS.noElement("it has no holder", () -> registry.holderOf(0));
        CHECKS.due("the other goes to the parent", 0, registry.holderOf(1));
        CHECKS.due("the practice is kept", true, registry.isPractised(1));
        CHECKS.due("the strength is kept", 6, registry.strengthOf(1));
    }

    private static void countsAndKinds() {
        HabitRegistry registry = twoFamilies();
        CHECKS.due("people", 9, registry.peopleCount());
        CHECKS.due("living people", 9, registry.livingCount());
        registry.bury(6);
        registry.bury(1);
        CHECKS.due("people after burials", 9, registry.peopleCount());
        CHECKS.due("living people after burials", 7, registry.livingCount());
        CHECKS.due("1 is dead", false, registry.isAlive(1));
        CHECKS.due("2 is alive", true, registry.isAlive(2));
        CHECKS.due("6 is still a founder", true, registry.isFounder(6));
        CHECKS.due("5 is no founder", false, registry.isFounder(5));
        CHECKS.noIndex("is -1 alive", () -> Checks.bit(registry.isAlive(-1)));
        CHECKS.noIndex("is 9 alive", () -> Checks.bit(registry.isAlive(9)));
        CHECKS.noIndex("is -1 a founder", () -> Checks.bit(registry.isFounder(-1)));
        CHECKS.noIndex("is 9 a founder", () -> Checks.bit(registry.isFounder(9)));
    }

    private static void parentsAndChildren() {
        HabitRegistry registry = twoFamilies();
        registry.bury(4);
        CHECKS.due("parent of 7", 5, registry.parentOf(7));
        CHECKS.due("parent of 8", 1, registry.parentOf(8));
        CHECKS.noElement("parent of a founder", () -> registry.parentOf(6));
        CHECKS.noIndex("parent of 9", () -> registry.parentOf(9));
        CHECKS.noIndex("parent of -1", () -> registry.parentOf(-1));
        CHECKS.due("children, dead ones too", 3, registry.childCount(1));
        CHECKS.due("no children", 0, registry.childCount(6));
        CHECKS.noIndex("children of 9", () -> registry.childCount(9));
        CHECKS.noIndex("children of -1", () -> registry.childCount(-1));
        CHECKS.due("first child", 3, registry.childAt(1, 0));
        CHECKS.due("second child", 4, registry.childAt(1, 1));
        CHECKS.due("third child", 8, registry.childAt(1, 2));
        CHECKS.noElement("fourth child", () -> registry.childAt(1, 3));
        CHECKS.noElement("child at -1", () -> registry.childAt(1, -1));
        CHECKS.noElement("child of the childless", () -> registry.childAt(6, 0));
        CHECKS.noIndex("child of 9", () -> registry.childAt(9, -1));
        CHECKS.noIndex("child of -1", () -> registry.childAt(-1, 0));
    }

    private static void generations() {
        HabitRegistry registry = twoFamilies();
        CHECKS.due("generation of a founder", 0, registry.generation(6));
        CHECKS.due("generation of a child", 1, registry.generation(2));
        CHECKS.due("generation of 7", 3, registry.generation(7));
        CHECKS.noIndex("generation of 9", () -> registry.generation(9));
        CHECKS.noIndex("generation of -1", () -> registry.generation(-1));
    }

    private static void livingDescendants() {
        HabitRegistry registry = twoFamilies();
        CHECKS.due("descendants of 0", 7, registry.livingDescendants(0));
        CHECKS.due("descendants of 1", 3, registry.livingDescendants(1));
        CHECKS.due("descendants of 2", 2, registry.livingDescendants(2));
        CHECKS.due("descendants of 6", 0, registry.livingDescendants(6));
        registry.bury(5);
        registry.bury(0);
        CHECKS.due("the dead do not count, those below them do", 1, registry.livingDescendants(2));
        CHECKS.due("a dead person has descendants too", 6, registry.livingDescendants(0));
        CHECKS.noIndex("descendants of 9", () -> registry.livingDescendants(9));
        CHECKS.noIndex("descendants of -1", () -> registry.livingDescendants(-1));
    }

    private static void ancestors() {
        HabitRegistry registry = twoFamilies();
        CHECKS.due("0 and 7", true, registry.isAncestor(0, 7));
        CHECKS.due("5 and 7", true, registry.isAncestor(5, 7));
        CHECKS.due("7 and 5", false, registry.isAncestor(7, 5));
        CHECKS.due("1 and 7", false, registry.isAncestor(1, 7));
        CHECKS.due("not of itself", false, registry.isAncestor(7, 7));
        CHECKS.due("not across families", false, registry.isAncestor(6, 7));
        CHECKS.noIndex("ancestor 9", () -> Checks.bit(registry.isAncestor(9, 0)));
        CHECKS.noIndex("person 9", () -> Checks.bit(registry.isAncestor(0, 9)));
        CHECKS.noIndex("ancestor -1", () -> Checks.bit(registry.isAncestor(-1, 0)));
        CHECKS.noIndex("person -1", () -> Checks.bit(registry.isAncestor(0, -1)));
    }

    private static void commonAncestors() {
        HabitRegistry registry = twoFamilies();
        CHECKS.due("of 3 and 8", 1, registry.commonAncestor(3, 8));
        CHECKS.due("of 3 and 7", 0, registry.commonAncestor(3, 7));
        CHECKS.due("of 7 and 2", 2, registry.commonAncestor(7, 2));
        CHECKS.due("of 2 and 7", 2, registry.commonAncestor(2, 7));
        CHECKS.due("of 5 and 5", 5, registry.commonAncestor(5, 5));
        CHECKS.noElement("of two families", () -> registry.commonAncestor(7, 6));
        CHECKS.noElement("of two families, turned", () -> registry.commonAncestor(6, 0));
        CHECKS.noIndex("of 9 and 0", () -> registry.commonAncestor(9, 0));
        CHECKS.noIndex("of 0 and 9", () -> registry.commonAncestor(0, 9));
        CHECKS.noIndex("of 6 and -1", () -> registry.commonAncestor(6, -1));
    }

    private static void distances() {
        HabitRegistry registry = twoFamilies();
        int[][] due = {{3, 8, 2}, {3, 7, 5}, {7, 3, 5}, {7, 2, 2}, {0, 7, 3}, {5, 5, 0}, {6, 6, 0}, {1, 2, 2}};
        for (int[] row : due) {
            CHECKS.due("distance of " + row[0] + " and " + row[1], row[2], registry.distance(row[0], row[1]));
            CHECKS.due("found by search", row[2], registry.distanceBySearch(row[0], row[1]));
        }
        CHECKS.noElement("of two families", () -> registry.distance(7, 6));
        CHECKS.noElement("of two families by search", () -> registry.distanceBySearch(7, 6));
        int[][] wrong = {{9, 0}, {0, 9}, {-1, 6}, {6, -1}};
        for (int[] row : wrong) {
            CHECKS.noIndex("distance with a wrong index", () -> registry.distance(row[0], row[1]));
            CHECKS.noIndex("search with a wrong index", () -> registry.distanceBySearch(row[0], row[1]));
        }
        HabitRegistry line = Checks.after("f;c0;c1;c2;c3;c4;c5;c6;c7;c8;c9;c10;c11;c12;c13;c14");
        CHECKS.due("the longest distance", 15, line.distance(0, 15));
        CHECKS.due("the longest distance by search", 15, line.distanceBySearch(15, 0));
    }
}
