import java.util.NoSuchElementException;

/** A registry of habits that are inherited in families. */
public final class HabitRegistry {
    public static final int PEOPLE_LIMIT = 1;
    public static final int HABIT_LIMIT = 2;
    public static final int DEAD = 3;
    public static final int HAS_KIND = 4;
    public static final int EXTINCT = 5;
    public static final int FULL_STRENGTH = 6;
    public static final int ENTAILED = 7;
    public static final int NOT_ENTAILED = 8;
    public static final int NO_DIRECT_HEIR = 9;
    public static final int SAME_HOLDER = 10;
    public static final int TOO_DISTANT = 11;
    public static final int COMMAND_REJECTED = 12;

    private static final int MAX_PEOPLE = 16;
    private static final int MAX_HABITS = 20;
    private static final int MAX_STRENGTH = 9;
    private static final int MAX_YEARS = 9;
    private static final int MAX_GIFT_DISTANCE = 3;
    private static final int MAX_CHANGES = 8;
    private static final int MAX_INPUT = 60;
    private static final int MAX_OUTPUT = 60;

    private static final char SLAMMING = 'd';
    private static final char SUGARS = 's';
    private static final char HUMMING = 'h';

    /** No person, no habit, no distance, no number, no offset. */
    private static final int NONE = -1;

    /** What an action answers in place of its result, which is never negative. */
    private static final int REFUSED = -1;
    private static final int UNACCEPTED = -2;

    private final State state = new State();
    private final Actions actions = new Actions(state);
    private final Search search = new Search();
    private final History history = new History();
    private final State snapshot = new State();
    private boolean hasSnapshot;
    private final Script script = new Script();
    private final Output output = new Output();
    private int syntaxError = NONE;
    private int latestReason;
    private int latestDetail;
    private int latestCause;

    public HabitRegistry() {
    }

    // ---- people

    public int addFounder() throws UnsupportedOperationException {
        history.mark(state);
        return settle(actions.newFounder());
    }

    public int addChild(int parent) throws IndexOutOfBoundsException, UnsupportedOperationException {
        requirePerson(parent);
        history.mark(state);
        return settle(actions.newChild(parent));
    }

    public int bury(int person) throws IndexOutOfBoundsException, UnsupportedOperationException {
        requirePerson(person);
        history.mark(state);
        return settle(actions.burial(person));
    }

    public int peopleCount() {
        return state.people.count;
    }

    public int livingCount() {
        return state.people.countLiving();
    }

    public boolean isAlive(int person) throws IndexOutOfBoundsException {
        requirePerson(person);
        return state.people.isLiving(person);
    }

    public boolean isFounder(int person) throws IndexOutOfBoundsException {
        requirePerson(person);
        return state.people.parent(person) == NONE;
    }

    public int parentOf(int person) throws IndexOutOfBoundsException, NoSuchElementException {
        requirePerson(person);
        return requireFound(state.people.parent(person));
    }

    public int childCount(int person) throws IndexOutOfBoundsException {
        requirePerson(person);
        return state.people.countChildren(person);
    }

    public int childAt(int person, int position) throws IndexOutOfBoundsException, NoSuchElementException {
        requirePerson(person);
        return requireFound(state.people.child(person, position));
    }

    public int generation(int person) throws IndexOutOfBoundsException {
        requirePerson(person);
        return state.people.depth(person);
    }

    public int livingDescendants(int person) throws IndexOutOfBoundsException {
        requirePerson(person);
        return state.people.countLivingBelow(person);
    }

    public boolean isAncestor(int ancestor, int person) throws IndexOutOfBoundsException {
        requirePerson(ancestor);
        requirePerson(person);
        return ancestor != person && state.people.nearestShared(ancestor, person) == ancestor;
    }

    public int commonAncestor(int first, int second) throws IndexOutOfBoundsException, NoSuchElementException {
        requirePerson(first);
        requirePerson(second);
        return requireFound(state.people.nearestShared(first, second));
    }

    public int distance(int first, int second) throws IndexOutOfBoundsException, NoSuchElementException {
        requirePerson(first);
        requirePerson(second);
        return requireFound(state.people.stepsBetween(first, second));
    }

    public int distanceBySearch(int first, int second) throws IndexOutOfBoundsException, NoSuchElementException {
        requirePerson(first);
        requirePerson(second);
        search.startFrom(state.people, first);
        return requireFound(search.stepsTo(second));
    }

    // ---- heirs

    public int heirOf(int person) throws IndexOutOfBoundsException, NoSuchElementException {
        requirePerson(person);
        return requireFound(state.people.heir(person));
    }

    public int heirByComparison(int person) throws IndexOutOfBoundsException, NoSuchElementException {
        requirePerson(person);
        return requireFound(state.people.heirAmongAll(person));
    }

    public int directHeirOf(int person) throws IndexOutOfBoundsException, NoSuchElementException {
        requirePerson(person);
        return requireFound(state.people.directHeir(person));
    }

    public int successionPosition(int person) throws IndexOutOfBoundsException {
        requirePerson(person);
        return state.people.placeInFamily(person);
    }

    // ---- habits

    public int addHabit(int person, char kind, int strength)
            throws IndexOutOfBoundsException, IllegalArgumentException, UnsupportedOperationException {
        requirePerson(person);
        requireKind(kind);
        if (!isStrength(strength)) {
            throw new IllegalArgumentException("the strength is out of range");
        }
        history.mark(state);
        return settle(actions.newHabit(person, kind, strength));
    }

    public int practise(int habit) throws IndexOutOfBoundsException, UnsupportedOperationException {
        requireHabit(habit);
        history.mark(state);
        return settle(actions.practice(habit));
    }

    public int neglect(int habit) throws IndexOutOfBoundsException, UnsupportedOperationException {
        requireHabit(habit);
        history.mark(state);
        return settle(actions.neglecting(habit));
    }

    public int entail(int habit) throws IndexOutOfBoundsException, UnsupportedOperationException {
        requireHabit(habit);
        history.mark(state);
        return settle(actions.entailing(habit));
    }

    public int breakEntail(int habit) throws IndexOutOfBoundsException, UnsupportedOperationException {
        requireHabit(habit);
        history.mark(state);
        return settle(actions.breaking(habit));
    }

    public int give(int habit, int person) throws IndexOutOfBoundsException, UnsupportedOperationException {
        requireHabit(habit);
        requirePerson(person);
        history.mark(state);
        return settle(actions.gift(habit, person));
    }

    public int habitCount() {
        return state.habits.count;
    }

    public char kindOf(int habit) throws IndexOutOfBoundsException {
        requireHabit(habit);
        return state.habits.kind(habit);
    }

    public int strengthOf(int habit) throws IndexOutOfBoundsException {
        requireHabit(habit);
        return state.habits.strength(habit);
    }

    public int holderOf(int habit) throws IndexOutOfBoundsException, NoSuchElementException {
        requireHabit(habit);
        return requireFound(state.habits.holder(habit));
    }

    public boolean isExtinct(int habit) throws IndexOutOfBoundsException {
        requireHabit(habit);
        return !state.habits.isHeld(habit);
    }

    public boolean isEntailed(int habit) throws IndexOutOfBoundsException {
        requireHabit(habit);
        return state.habits.hasEntail(habit);
    }

    public boolean isPractised(int habit) throws IndexOutOfBoundsException {
        requireHabit(habit);
        return state.habits.hasPractice(habit);
    }

    public int habitOf(int person, char kind)
            throws IndexOutOfBoundsException, IllegalArgumentException, NoSuchElementException {
        requirePerson(person);
        requireKind(kind);
        return requireFound(state.habits.find(person, kind));
    }

    public int habitStrength(int person) throws IndexOutOfBoundsException {
        requirePerson(person);
        return state.habits.sumOf(person);
    }

    // ---- years

    public int passYears(int years) throws IllegalArgumentException {
        if (!isYears(years)) {
            throw new IllegalArgumentException("the number of years is out of range");
        }
        history.mark(state);
        return settle(actions.passing(years));
    }

    public int year() {
        return state.years;
    }

    public int yearsLeft(int habit) throws IndexOutOfBoundsException, NoSuchElementException {
        requireHabit(habit);
        return requireFound(state.habits.remainingYears(habit));
    }

    // ---- totals and orders

    public int lapsedCount() {
        return state.habits.lapsed;
    }

    public int mergedCount() {
        return state.habits.merged;
    }

    public int brokenCount() {
        return state.habits.broken;
    }

    public int totalStrength() {
        return state.habits.sumOfAll();
    }

    public int totalStrengthByPeople() {
        return state.sumByPeople();
    }

    public int habitByStrength(int position) throws NoSuchElementException {
        return requireFound(state.habits.ranked(position));
    }

    public int personByStrength(int position) throws NoSuchElementException {
        return requireFound(state.rankedPerson(position));
    }

    public double meanStrength() throws ArithmeticException {
        int held = state.habits.countHeld();
        if (held == 0) {
            throw new ArithmeticException("all habits are extinct");
        }
        return (double) state.habits.sumOfAll() / (double) held;
    }

    public float livingShare() throws ArithmeticException {
        int all = state.people.count;
        if (all == 0) {
            throw new ArithmeticException("there are no people");
        }
        return (float) state.people.countLiving() / (float) all;
    }

    public boolean isConsistent() {
        return state.heirsAgree()
                && distancesAgree()
                && state.habits.sumOfAll() == state.sumByPeople()
                && state.holdersLive()
                && state.kindsAreSingle();
    }

    private boolean distancesAgree() {
        int count = state.people.count;
        for (int first = 0; first < count; first++) {
            search.startFrom(state.people, first);
            for (int second = 0; second < count; second++) {
                if (search.stepsTo(second) != state.people.stepsBetween(first, second)) {
                    return false;
                }
            }
        }
        return true;
    }

    // ---- text output

    public int writePerson(int person) throws IndexOutOfBoundsException {
        requirePerson(person);
        output.clear();
        output.putNumber(person);
        if (!state.people.isLiving(person)) {
            output.put('+');
        }
        int parent = state.people.parent(person);
        if (parent != NONE) {
            output.put('<');
            output.putNumber(parent);
        }
        putHabit(state.habits.find(person, SLAMMING));
        putHabit(state.habits.find(person, SUGARS));
        putHabit(state.habits.find(person, HUMMING));
        return output.length;
    }

    private void putHabit(int habit) {
        if (habit == NONE) {
            return;
        }
        output.put(' ');
        output.put(state.habits.kind(habit));
        output.putNumber(state.habits.strength(habit));
        if (state.habits.hasEntail(habit)) {
            output.put('!');
        }
    }

    public int writeLine(int person) throws IndexOutOfBoundsException {
        requirePerson(person);
        output.clear();
        output.putNumber(person);
        int above = state.people.parent(person);
        for (int step = 0; step < MAX_PEOPLE && above != NONE; step++) {
            output.put('<');
            output.putNumber(above);
            above = state.people.parent(above);
        }
        return output.length;
    }

    public char outputAt(int index) throws IndexOutOfBoundsException {
        if (!output.has(index)) {
            throw new IndexOutOfBoundsException("there is no character at this index");
        }
        return output.sign(index);
    }

    // ---- commands

    public int appendInput(char character) throws IllegalArgumentException, IllegalStateException {
        if (character < 32 || character > 126) {
            throw new IllegalArgumentException("the code is out of range");
        }
        if (script.isFull()) {
            throw new IllegalStateException("the input is full");
        }
        script.append(character);
        return script.length;
    }

    public int execute() throws IllegalArgumentException, IllegalStateException, UnsupportedOperationException {
        boolean correct = script.parse();
        script.clear();
        if (!correct) {
            syntaxError = script.offset;
            throw new IllegalArgumentException("the input has a syntax error");
        }
        history.mark(state);
        for (int command = 0; command < script.count; command++) {
            int answer = runCommand(command);
            if (answer < 0) {
                state.copyFrom(history.marked());
            }
            if (answer == UNACCEPTED) {
                throw new IllegalStateException("a command has an index or a number that is not accepted");
            }
            if (answer == REFUSED) {
                noteRejection(COMMAND_REJECTED, command, actions.reason);
                throw new UnsupportedOperationException("a command is rejected");
            }
        }
        history.keep();
        return script.count;
    }

    private int runCommand(int command) {
        int first = script.firstNumber(command);
        int second = script.secondNumber(command);
        switch (script.letter(command)) {
            case 'f':
                return actions.newFounder();
            case 'c':
                return actions.newChild(first);
            case 'b':
                return actions.burial(first);
            case 'a':
                return actions.newHabit(first, script.kind(command), second);
            case 'p':
                return actions.practice(first);
            case 'n':
                return actions.neglecting(first);
            case 'e':
                return actions.entailing(first);
            case 'k':
                return actions.breaking(first);
            case 'g':
                return actions.gift(first, second);
            case 'y':
                return actions.passing(first);
            default:
                return UNACCEPTED;
        }
    }

    public int syntaxErrorOffset() throws NoSuchElementException {
        return requireFound(syntaxError);
    }

    // ---- rejections and history

    public int rejectionReason() throws NoSuchElementException {
        requireRejection();
        return latestReason;
    }

    public int rejectionDetail() throws NoSuchElementException {
        requireRejection();
        return latestDetail;
    }

    public int causeReason() throws NoSuchElementException {
        if (latestReason != COMMAND_REJECTED) {
            throw new NoSuchElementException("no command was rejected");
        }
        return latestCause;
    }

    public int undo() throws IllegalStateException {
        if (history.count == 0) {
            throw new IllegalStateException("there is no change that can be undone");
        }
        history.stepBack();
        state.copyFrom(history.marked());
        return history.count;
    }

    public int undoCount() {
        return history.count;
    }

    public int saveSnapshot() {
        snapshot.copyFrom(state);
        hasSnapshot = true;
        return state.people.count;
    }

    public int restoreSnapshot() throws IllegalStateException {
        if (!hasSnapshot) {
            throw new IllegalStateException("there is no snapshot");
        }
        state.copyFrom(snapshot);
        history.clear();
        return state.people.count;
    }

    /** Ends a change that was marked in the history: it is kept there, or it was rejected. */
    private int settle(int answer) {
        if (answer < 0) {
            noteRejection(actions.reason, actions.detail, 0);
            throw new UnsupportedOperationException("the call is rejected");
        }
        history.keep();
        return answer;
    }

    private void noteRejection(int reason, int detail, int cause) {
        latestReason = reason;
        latestDetail = detail;
        latestCause = cause;
    }

    private void requireRejection() {
        if (latestReason == 0) {
            throw new NoSuchElementException("no call was rejected");
        }
    }

    private void requirePerson(int person) {
        if (!state.people.has(person)) {
            throw new IndexOutOfBoundsException("there is no such person");
        }
    }

    private void requireHabit(int habit) {
        if (!state.habits.has(habit)) {
            throw new IndexOutOfBoundsException("there is no such habit");
        }
    }

    private static void requireKind(char kind) {
        if (!isKind(kind)) {
            throw new IllegalArgumentException("there is no such kind");
        }
    }

    private static int requireFound(int found) {
        if (found == NONE) {
            throw new NoSuchElementException("there is none");
        }
        return found;
    }

    private static boolean isKind(char kind) {
        return kind == SLAMMING || kind == SUGARS || kind == HUMMING;
    }

    private static boolean isStrength(int strength) {
        return strength >= 1 && strength <= MAX_STRENGTH;
    }

    private static boolean isYears(int years) {
        return years >= 1 && years <= MAX_YEARS;
    }

    /** The forest of people. */
    private static final class People {
        private final int[] parents = new int[MAX_PEOPLE];
        private final int[] depths = new int[MAX_PEOPLE];
        private final boolean[] living = new boolean[MAX_PEOPLE];

        /**
         * Family behind family, each in its order of succession: so the descendants of a person are those of greater
         * depth who follow the person without a gap.
         */
        private final int[] order = new int[MAX_PEOPLE];
        private int count;

        boolean has(int person) {
            return person >= 0 && person < count;
        }

        boolean isLiving(int person) {
            return person >= 0 && person < count && living[person];
        }

        int parent(int person) {
            return person >= 0 && person < count ? parents[person] : NONE;
        }

        int depth(int person) {
            return person >= 0 && person < count ? depths[person] : NONE;
        }

        int personAt(int place) {
            return place >= 0 && place < count ? order[place] : NONE;
        }

        int placeOf(int person) {
            int place = 0;
            while (place < count && order[place] != person) {
                place++;
            }
            return place;
        }

        /** The place behind the last descendant of a person. */
        int endOfBranch(int person) {
            int end = placeOf(person) + 1;
            while (end < count && depth(order[end]) > depth(person)) {
                end++;
            }
            return end;
        }

        int add(int parent) {
            if (count >= MAX_PEOPLE) {
                return NONE;
            }
            int person = count;
            int place = parent == NONE ? count : Math.min(endOfBranch(parent), count);
            for (int behind = count; behind > place; behind--) {
                order[behind] = order[behind - 1];
            }
            order[place] = person;
            parents[person] = parent;
            depths[person] = depth(parent) + 1;
            living[person] = true;
            count++;
            return person;
        }

        void die(int person) {
            if (has(person)) {
                living[person] = false;
            }
        }

        int countLiving() {
            int found = 0;
            for (int person = 0; person < count; person++) {
                if (living[person]) {
                    found++;
                }
            }
            return found;
        }

        int countChildren(int person) {
            int found = 0;
            for (int other = 0; other < count; other++) {
                if (parents[other] == person) {
                    found++;
                }
            }
            return found;
        }

        int child(int person, int position) {
            int passed = 0;
            for (int other = 0; other < count; other++) {
                if (parents[other] == person) {
                    if (passed == position) {
                        return other;
                    }
                    passed++;
                }
            }
            return NONE;
        }

        int countLivingBelow(int person) {
            int found = 0;
            int end = endOfBranch(person);
            for (int place = placeOf(person) + 1; place < end; place++) {
                if (isLiving(personAt(place))) {
                    found++;
                }
            }
            return found;
        }

        int firstLivingBelow(int person, int leftOut) {
            int end = endOfBranch(person);
            for (int place = placeOf(person) + 1; place < end; place++) {
                int found = personAt(place);
                if (found != leftOut && isLiving(found)) {
                    return found;
                }
            }
            return NONE;
        }

        int nearestShared(int first, int second) {
            int one = first;
            int other = second;
            for (int step = 0; step < 2 * MAX_PEOPLE && one != other; step++) {
                if (depth(one) >= depth(other)) {
                    one = parent(one);
                } else {
                    other = parent(other);
                }
            }
            return one == other ? one : NONE;
        }

        int stepsBetween(int first, int second) {
            int shared = nearestShared(first, second);
            return shared == NONE ? NONE : depth(first) + depth(second) - 2 * depth(shared);
        }

        boolean areNeighbours(int first, int second) {
            return parent(first) == second || parent(second) == first;
        }

        int placeInFamily(int person) {
            int place = placeOf(person);
            int founderPlace = place;
            while (founderPlace > 0 && depth(personAt(founderPlace)) > 0) {
                founderPlace--;
            }
            return place - founderPlace;
        }

        int directHeir(int person) {
            return firstLivingBelow(person, NONE);
        }

        int heir(int person) {
            int found = firstLivingBelow(person, NONE);
            int above = parent(person);
            for (int step = 0; step < MAX_PEOPLE && found == NONE && above != NONE; step++) {
                found = isLiving(above) ? above : firstLivingBelow(above, person);
                above = parent(above);
            }
            return found;
        }

        int heirAmongAll(int person) {
            int best = NONE;
            for (int other = 0; other < count; other++) {
                boolean eligible = other != person && living[other] && nearestShared(other, person) != NONE;
                if (eligible && (best == NONE || succeedsBefore(other, best, person))) {
                    best = other;
                }
            }
            return best;
        }

        /** The search for an heir goes up, so whoever shares a lower ancestor with the person comes first. */
        private boolean succeedsBefore(int one, int other, int person) {
            int depthOfOne = depth(nearestShared(one, person));
            int depthOfOther = depth(nearestShared(other, person));
            if (depthOfOne != depthOfOther) {
                return depthOfOne > depthOfOther;
            }
            return placeOf(one) < placeOf(other);
        }

        void copyFrom(People other) {
            for (int person = 0; person < MAX_PEOPLE; person++) {
                parents[person] = other.parents[person];
                depths[person] = other.depths[person];
                living[person] = other.living[person];
                order[person] = other.order[person];
            }
            count = other.count;
        }
    }

    /** A breadth-first search among people; its rows are used again by each search. */
    private static final class Search {
        private final int[] steps = new int[MAX_PEOPLE];
        private final int[] queue = new int[MAX_PEOPLE];
        private int reached;

        void startFrom(People people, int start) {
            for (int person = 0; person < MAX_PEOPLE; person++) {
                steps[person] = NONE;
            }
            reached = 0;
            reach(start, 0);
            for (int next = 0; next < reached && next < MAX_PEOPLE; next++) {
                int from = queue[next];
                for (int person = 0; person < people.count; person++) {
                    if (people.areNeighbours(from, person)) {
                        reach(person, stepsTo(from) + 1);
                    }
                }
            }
        }

        private void reach(int person, int after) {
            boolean isNew = person >= 0 && person < MAX_PEOPLE && steps[person] == NONE;
            if (isNew && reached >= 0 && reached < MAX_PEOPLE) {
                steps[person] = after;
                queue[reached] = person;
                reached++;
            }
        }

        int stepsTo(int person) {
            return person >= 0 && person < MAX_PEOPLE ? steps[person] : NONE;
        }
    }

    /** The habits, extinct ones included, and how many became extinct in each way. */
    private static final class Habits {
        private final char[] kinds = new char[MAX_HABITS];
        private final int[] strengths = new int[MAX_HABITS];
        private final int[] holders = new int[MAX_HABITS];
        private final boolean[] entails = new boolean[MAX_HABITS];
        private final boolean[] practices = new boolean[MAX_HABITS];
        private int count;
        private int lapsed;
        private int merged;
        private int broken;

        boolean has(int habit) {
            return habit >= 0 && habit < count;
        }

        char kind(int habit) {
            return has(habit) ? kinds[habit] : ' ';
        }

        int strength(int habit) {
            return has(habit) ? strengths[habit] : 0;
        }

        int holder(int habit) {
            return has(habit) ? holders[habit] : NONE;
        }

        boolean isHeld(int habit) {
            return has(habit) && strengths[habit] > 0;
        }

        boolean hasEntail(int habit) {
            return has(habit) && entails[habit];
        }

        boolean hasPractice(int habit) {
            return has(habit) && practices[habit];
        }

        int remainingYears(int habit) {
            if (!isHeld(habit)) {
                return NONE;
            }
            return hasPractice(habit) ? strength(habit) + 1 : strength(habit);
        }

        int find(int person, char kind) {
            for (int habit = 0; habit < count; habit++) {
                if (strengths[habit] > 0 && holders[habit] == person && kinds[habit] == kind) {
                    return habit;
                }
            }
            return NONE;
        }

        int add(int person, char kind, int strength) {
            if (count >= MAX_HABITS) {
                return NONE;
            }
            int habit = count;
            kinds[habit] = kind;
            strengths[habit] = strength;
            holders[habit] = person;
            entails[habit] = false;
            practices[habit] = false;
            count++;
            return habit;
        }

        void strengthen(int habit) {
            if (has(habit)) {
                strengths[habit] = Math.min(strengths[habit] + 1, MAX_STRENGTH);
                practices[habit] = true;
            }
        }

        void weaken(int habit) {
            if (!isHeld(habit)) {
                return;
            }
            strengths[habit]--;
            if (strengths[habit] == 0) {
                lapsed++;
                end(habit);
            }
        }

        private void end(int habit) {
            if (has(habit)) {
                strengths[habit] = 0;
                holders[habit] = NONE;
                entails[habit] = false;
                practices[habit] = false;
            }
        }

        void bind(int habit) {
            if (has(habit)) {
                entails[habit] = true;
            }
        }

        void free(int habit) {
            if (has(habit)) {
                entails[habit] = false;
                strengths[habit] = (strengths[habit] + 1) / 2;
            }
        }

        void move(int habit, int person) {
            if (has(habit)) {
                holders[habit] = person;
            }
        }

        /** Tells whether the habit lives on: with the heir as its holder, or in a habit of the heir. */
        boolean passOn(int habit, int heir) {
            if (heir == NONE) {
                broken++;
                end(habit);
                return false;
            }
            int own = find(heir, kind(habit));
            if (has(own)) {
                strengths[own] = Math.min(strengths[own] + strength(habit), MAX_STRENGTH);
                merged++;
                end(habit);
            } else {
                move(habit, heir);
            }
            return true;
        }

        void endYear() {
            for (int habit = 0; habit < count; habit++) {
                if (!practices[habit]) {
                    weaken(habit);
                }
                practices[habit] = false;
            }
        }

        int sumOf(int person) {
            int sum = 0;
            for (int habit = 0; habit < count; habit++) {
                if (holders[habit] == person) {
                    sum += strengths[habit];
                }
            }
            return sum;
        }

        int sumOfAll() {
            int sum = 0;
            for (int habit = 0; habit < count; habit++) {
                sum += strengths[habit];
            }
            return sum;
        }

        int countHeld() {
            int found = 0;
            for (int habit = 0; habit < count; habit++) {
                if (strengths[habit] > 0) {
                    found++;
                }
            }
            return found;
        }

        int ranked(int position) {
            for (int habit = 0; habit < count; habit++) {
                if (strengths[habit] > 0 && rank(habit) == position) {
                    return habit;
                }
            }
            return NONE;
        }

        private int rank(int habit) {
            int ahead = 0;
            for (int other = 0; other < count; other++) {
                int more = strengths[other] - strength(habit);
                if (more > 0 || more == 0 && other < habit) {
                    ahead++;
                }
            }
            return ahead;
        }

        void copyFrom(Habits other) {
            for (int habit = 0; habit < MAX_HABITS; habit++) {
                kinds[habit] = other.kinds[habit];
                strengths[habit] = other.strengths[habit];
                holders[habit] = other.holders[habit];
                entails[habit] = other.entails[habit];
                practices[habit] = other.practices[habit];
            }
            count = other.count;
            lapsed = other.lapsed;
            merged = other.merged;
            broken = other.broken;
        }
    }

    /** All that undo and the snapshot cover. */
    private static final class State {
        private final People people = new People();
        private final Habits habits = new Habits();
        private int years;

        void copyFrom(State other) {
            if (other == null) {
                return;
            }
            people.copyFrom(other.people);
            habits.copyFrom(other.habits);
            years = other.years;
        }

        int sumByPeople() {
            int sum = 0;
            for (int person = 0; person < people.count; person++) {
                sum += habits.sumOf(person);
            }
            return sum;
        }

        int rankedPerson(int position) {
            for (int person = 0; person < people.count; person++) {
                if (people.isLiving(person) && rank(person) == position) {
                    return person;
                }
            }
            return NONE;
        }

        private int rank(int person) {
            int ahead = 0;
            for (int other = 0; other < people.count; other++) {
                if (people.isLiving(other) && isAhead(other, person)) {
                    ahead++;
                }
            }
            return ahead;
        }

        private boolean isAhead(int one, int other) {
            int more = habits.sumOf(one) - habits.sumOf(other);
            if (more != 0) {
                return more > 0;
            }
            int deeper = people.depth(one) - people.depth(other);
            return deeper < 0 || deeper == 0 && one < other;
        }

        boolean heirsAgree() {
            for (int person = 0; person < people.count; person++) {
                if (people.heir(person) != people.heirAmongAll(person)) {
                    return false;
                }
            }
            return true;
        }

        boolean holdersLive() {
            for (int habit = 0; habit < habits.count; habit++) {
                if (habits.isHeld(habit) && !people.isLiving(habits.holder(habit))) {
                    return false;
                }
            }
            return true;
        }

        boolean kindsAreSingle() {
            for (int habit = 0; habit < habits.count; habit++) {
                boolean held = habits.isHeld(habit);
                if (held && habits.find(habits.holder(habit), habits.kind(habit)) != habit) {
                    return false;
                }
            }
            return true;
        }
    }

    /** What changes the state: each action answers its result, or UNACCEPTED, or REFUSED with a reason and a detail. */
    private static final class Actions {
        private final People people;
        private final Habits habits;
        private final State state;
        private int reason;
        private int detail;

        Actions(State changed) {
            state = changed;
            people = changed.people;
            habits = changed.habits;
        }

        private int refuse(int why, int what) {
            reason = why;
            detail = what;
            return REFUSED;
        }

        int newFounder() {
            if (people.count >= MAX_PEOPLE) {
                return refuse(PEOPLE_LIMIT, MAX_PEOPLE);
            }
            return people.add(NONE);
        }

        int newChild(int parent) {
            if (!people.has(parent)) {
                return UNACCEPTED;
            }
            if (!people.isLiving(parent)) {
                return refuse(DEAD, parent);
            }
            if (people.count >= MAX_PEOPLE) {
                return refuse(PEOPLE_LIMIT, MAX_PEOPLE);
            }
            return people.add(parent);
        }

        int burial(int person) {
            if (!people.has(person)) {
                return UNACCEPTED;
            }
            if (!people.isLiving(person)) {
                return refuse(DEAD, person);
            }
            people.die(person);
            int directHeir = people.directHeir(person);
            int heir = people.heir(person);
            int passed = 0;
            for (int habit = 0; habit < habits.count; habit++) {
                boolean inherited = habits.holder(habit) == person;
                if (inherited && habits.passOn(habit, habits.hasEntail(habit) ? directHeir : heir)) {
                    passed++;
                }
            }
            return passed;
        }

        int newHabit(int person, char kind, int strength) {
            if (!people.has(person) || !isKind(kind) || !isStrength(strength)) {
                return UNACCEPTED;
            }
            if (!people.isLiving(person)) {
                return refuse(DEAD, person);
            }
            int own = habits.find(person, kind);
            if (own != NONE) {
                return refuse(HAS_KIND, own);
            }
            if (habits.count >= MAX_HABITS) {
                return refuse(HABIT_LIMIT, MAX_HABITS);
            }
            return habits.add(person, kind, strength);
        }

        int practice(int habit) {
            if (!habits.has(habit)) {
                return UNACCEPTED;
            }
            if (!habits.isHeld(habit)) {
                return refuse(EXTINCT, habit);
            }
            if (habits.strength(habit) >= MAX_STRENGTH) {
                return refuse(FULL_STRENGTH, MAX_STRENGTH);
            }
            habits.strengthen(habit);
            return habits.strength(habit);
        }

        int neglecting(int habit) {
            if (!habits.has(habit)) {
                return UNACCEPTED;
            }
            if (!habits.isHeld(habit)) {
                return refuse(EXTINCT, habit);
            }
            habits.weaken(habit);
            return habits.strength(habit);
        }

        int entailing(int habit) {
            if (!habits.has(habit)) {
                return UNACCEPTED;
            }
            if (!habits.isHeld(habit)) {
                return refuse(EXTINCT, habit);
            }
            if (habits.hasEntail(habit)) {
                return refuse(ENTAILED, habit);
            }
            int holder = habits.holder(habit);
            if (people.directHeir(holder) == NONE) {
                return refuse(NO_DIRECT_HEIR, holder);
            }
            habits.bind(habit);
            return holder;
        }

        int breaking(int habit) {
            if (!habits.has(habit)) {
                return UNACCEPTED;
            }
            if (!habits.isHeld(habit)) {
                return refuse(EXTINCT, habit);
            }
            if (!habits.hasEntail(habit)) {
                return refuse(NOT_ENTAILED, habit);
            }
            habits.free(habit);
            return habits.strength(habit);
        }

        int gift(int habit, int person) {
            if (!habits.has(habit) || !people.has(person)) {
                return UNACCEPTED;
            }
            if (!habits.isHeld(habit)) {
                return refuse(EXTINCT, habit);
            }
            if (habits.hasEntail(habit)) {
                return refuse(ENTAILED, habit);
            }
            if (!people.isLiving(person)) {
                return refuse(DEAD, person);
            }
            int holder = habits.holder(habit);
            if (holder == person) {
                return refuse(SAME_HOLDER, person);
            }
            int steps = people.stepsBetween(holder, person);
            if (steps == NONE || steps > MAX_GIFT_DISTANCE) {
                return refuse(TOO_DISTANT, steps);
            }
            int own = habits.find(person, habits.kind(habit));
            if (own != NONE) {
                return refuse(HAS_KIND, own);
            }
            habits.move(habit, person);
            return steps;
        }

        int passing(int years) {
            if (!isYears(years)) {
                return UNACCEPTED;
            }
            int before = habits.lapsed;
            for (int passed = 0; passed < years; passed++) {
                habits.endYear();
            }
            state.years += years;
            return habits.lapsed - before;
        }
    }

    /** A ring of the states ahead of the latest changes, with one slot more for the state ahead of the next one. */
    private static final class History {
        private static final int SLOTS = MAX_CHANGES + 1;

        private final State[] slots = new State[SLOTS];
        private int next;
        private int count;

        History() {
            for (int slot = 0; slot < SLOTS; slot++) {
                slots[slot] = new State();
            }
        }

        State marked() {
            return next >= 0 && next < SLOTS ? slots[next] : null;
        }

        void mark(State now) {
            State slot = marked();
            if (slot != null) {
                slot.copyFrom(now);
            }
        }

        void keep() {
            next = next + 1 < SLOTS ? next + 1 : 0;
            count = Math.min(count + 1, MAX_CHANGES);
        }

        void stepBack() {
            next = next > 0 ? next - 1 : SLOTS - 1;
            count = Math.max(count - 1, 0);
        }

        void clear() {
            count = 0;
        }
    }

    /** The input, and the commands that were read from it at last. */
    private static final class Script {
        private final char[] text = new char[MAX_INPUT];
        private int length;

        /** Where reading stands; it stays at the first sign that cannot follow. */
        private int offset;

        /** A command takes a sign at least, so there are never more commands than signs. */
        private final int[] letters = new int[MAX_INPUT];
        private final int[] firsts = new int[MAX_INPUT];
        private final char[] kinds = new char[MAX_INPUT];
        private final int[] seconds = new int[MAX_INPUT];
        private int count;

        boolean isFull() {
            return length >= MAX_INPUT;
        }

        void append(char sign) {
            if (length >= 0 && length < MAX_INPUT) {
                text[length] = sign;
                length++;
            }
        }

        void clear() {
            length = 0;
        }

        int letter(int command) {
            return command >= 0 && command < count ? letters[command] : ' ';
        }

        int firstNumber(int command) {
            return command >= 0 && command < count ? firsts[command] : NONE;
        }

        char kind(int command) {
            return command >= 0 && command < count ? kinds[command] : ' ';
        }

        int secondNumber(int command) {
            return command >= 0 && command < count ? seconds[command] : NONE;
        }

        boolean parse() {
            offset = 0;
            count = 0;
            for (int command = 0; command < MAX_INPUT; command++) {
                if (!readCommand(command)) {
                    return false;
                }
                count++;
                if (offset >= length) {
                    return true;
                }
                if (!skip(';')) {
                    return false;
                }
            }
            return false;
        }

        private boolean readCommand(int command) {
            if (command < 0 || command >= MAX_INPUT) {
                return false;
            }
            char letter = current();
            if ("fcbapnekgy".indexOf(letter) < 0) {
                return false;
            }
            offset++;
            letters[command] = letter;
            switch (letters[command]) {
                case 'f':
                    return true;
                case 'y':
                    firsts[command] = readNumber(1);
                    return firsts[command] != NONE;
                case 'a':
                    firsts[command] = readNumber(2);
                    kinds[command] = current();
                    return firsts[command] != NONE && skipKind() && readSecond(command, 1);
                case 'g':
                    firsts[command] = readNumber(2);
                    return firsts[command] != NONE && skip('>') && readSecond(command, 2);
                default:
                    firsts[command] = readNumber(2);
                    return firsts[command] != NONE;
            }
        }

        private boolean readSecond(int command, int mostDigits) {
            int number = readNumber(mostDigits);
            if (command >= 0 && command < MAX_INPUT) {
                seconds[command] = number;
            }
            return number != NONE;
        }

        private int readNumber(int mostDigits) {
            int number = NONE;
            for (int digit = 0; digit < mostDigits; digit++) {
                char sign = current();
                if (sign < '0' || sign > '9') {
                    return number;
                }
                number = Math.max(number, 0) * 10 + (sign - '0');
                offset++;
            }
            return number;
        }

        private boolean skipKind() {
            return isKind(current()) && skip(current());
        }

        private boolean skip(char expected) {
            if (current() != expected) {
                return false;
            }
            offset++;
            return true;
        }

        /** A sign that no input holds stands for the end. */
        private char current() {
            return offset >= 0 && offset < length ? text[offset] : (char) 0;
        }
    }

    /** The text written at last. */
    private static final class Output {
        private final char[] signs = new char[MAX_OUTPUT];
        private int length;

        boolean has(int index) {
            return index >= 0 && index < length;
        }

        char sign(int index) {
            return has(index) ? signs[index] : ' ';
        }

        void clear() {
            length = 0;
        }

        void put(char sign) {
            if (length >= 0 && length < MAX_OUTPUT) {
                signs[length] = sign;
                length++;
            }
        }

        /** No index and no strength has more than two digits. */
        void putNumber(int number) {
            if (number >= 10) {
                put((char) ('0' + number / 10));
            }
            put((char) ('0' + number % 10));
        }
    }
}
