import java.util.ArrayDeque;
import java.util.ArrayList;
import java.util.Comparator;
import java.util.Deque;
import java.util.HashMap;
import java.util.List;
import java.util.Map;
import java.util.NoSuchElementException;
import java.util.regex.Matcher;
import java.util.regex.Pattern;

/**
 * A second HabitRegistry for ModelTest, written from the document alone and in other ways: people that know their
 * children, lists, sorting, regular expressions, and whole copies for undo. Its methods bear the names of the face.
 */
final class Model {
    private static final Pattern COMMAND =
            Pattern.compile("(f)|([cbpnek])(\\d\\d?)|(a)(\\d\\d?)([dsh])(\\d)|(g)(\\d\\d?)>(\\d\\d?)|(y)(\\d)");
    private static final Pattern INPUT = Pattern.compile("(?:" + COMMAND + ")(?:;(?:" + COMMAND + "))*");

    private static final class Person {
        private final int index;
        private final Person parent;
        private final List<Person> children = new ArrayList<>();
        private boolean alive = true;

        Person(int index, Person parent) {
            this.index = index;
            this.parent = parent;
        }

        int generation() {
            return parent == null ? 0 : parent.generation() + 1;
        }

        Person founder() {
            return parent == null ? this : parent.founder();
        }

        List<Person> succession() {
            List<Person> all = new ArrayList<>(List.of(this));
            children.forEach(child -> all.addAll(child.succession()));
            return all;
        }

        List<Person> line() {
            List<Person> all = new ArrayList<>(List.of(this));
            if (parent != null) {
                all.addAll(parent.line());
            }
            return all;
        }
    }

    private static final class Habit {
        private final int index;
        private final char kind;
        private int strength;
        private Person holder;
        private boolean entailed;
        private boolean practised;

        Habit(int index, char kind, int strength, Person holder) {
            this.index = index;
            this.kind = kind;
            this.strength = strength;
            this.holder = holder;
        }

        void end() {
            strength = 0;
            holder = null;
            entailed = false;
            practised = false;
        }
    }

    private static final class Data {
        private final List<Person> people = new ArrayList<>();
        private final List<Habit> habits = new ArrayList<>();
        private int year;
        private int lapsed;
        private int merged;
        private int broken;

        Data copy() {
            Data copy = new Data();
            for (Person person : people) {
                Person other = copy.born(person.parent == null ? null : copy.people.get(person.parent.index));
                other.alive = person.alive;
            }
            for (Habit habit : habits) {
                Person holder = habit.holder == null ? null : copy.people.get(habit.holder.index);
                Habit other = new Habit(habit.index, habit.kind, habit.strength, holder);
                other.entailed = habit.entailed;
                other.practised = habit.practised;
                copy.habits.add(other);
            }
            copy.year = year;
            copy.lapsed = lapsed;
            copy.merged = merged;
            copy.broken = broken;
            return copy;
        }

        Person born(Person parent) {
            Person person = new Person(people.size(), parent);
            people.add(person);
            if (parent != null) {
                parent.children.add(person);
            }
            return person;
        }
    }

    private Data data = new Data();
    private Data snapshot;
    private final Deque<Data> earlier = new ArrayDeque<>();
    private boolean inExecute;
    private String input = "";
    private String output = "";
    private Integer syntaxError;
    private Integer reason;
    private int detail;
    private int cause;

    private void remember() {
        if (!inExecute) {
            earlier.push(data.copy());
            if (earlier.size() > 8) {
                earlier.removeLast();
            }
        }
    }

    private UnsupportedOperationException rejection(int why, int what) {
        reason = why;
        detail = what;
        return new UnsupportedOperationException();
    }

    private Person person(int index) {
        if (index < 0 || index >= data.people.size()) {
            throw new IndexOutOfBoundsException();
        }
        return data.people.get(index);
    }

    private Habit habit(int index) {
        if (index < 0 || index >= data.habits.size()) {
            throw new IndexOutOfBoundsException();
        }
        return data.habits.get(index);
    }

    private static <T> T some(T found) {
        if (found == null) {
            throw new NoSuchElementException();
        }
        return found;
    }

    private static void kind(char kind) {
        if ("dsh".indexOf(kind) < 0) {
            throw new IllegalArgumentException();
        }
    }

    private Habit held(Person person, char kind) {
        return data.habits.stream().filter(habit -> habit.holder == person && habit.kind == kind).findFirst()
                .orElse(null);
    }

    public int addFounder() {
        if (data.people.size() == 16) {
            throw rejection(1, 16);
        }
        remember();
        return data.born(null).index;
    }

    public int addChild(int parent) {
        Person found = person(parent);
        if (!found.alive) {
            throw rejection(3, parent);
        }
        if (data.people.size() == 16) {
            throw rejection(1, 16);
        }
        remember();
        return data.born(person(parent)).index;
    }

    public int bury(int person) {
        Person found = person(person);
        if (!found.alive) {
            throw rejection(3, person);
        }
        remember();
        found.alive = false;
        int count = 0;
        for (Habit habit : data.habits) {
            if (habit.holder == found) {
                count += inherit(habit, habit.entailed ? directHeir(found) : heir(found));
            }
        }
        return count;
    }

    private int inherit(Habit habit, Person heir) {
        if (heir == null) {
            habit.end();
            data.broken++;
            return 0;
        }
        Habit own = held(heir, habit.kind);
        if (own == null) {
            habit.holder = heir;
        } else {
            own.strength = Math.min(9, own.strength + habit.strength);
            habit.end();
            data.merged++;
        }
        return 1;
    }

    private static Person firstAlive(Person above, Person leftOut) {
        return above.succession().stream().skip(1).filter(other -> other.alive && other != leftOut).findFirst()
                .orElse(null);
    }

    private static Person directHeir(Person person) {
        return firstAlive(person, null);
    }

    private static Person heir(Person person) {
        Person found = directHeir(person);
        for (Person above = person.parent; found == null && above != null; above = above.parent) {
            found = above.alive ? above : firstAlive(above, person);
        }
        return found;
    }

    public int peopleCount() {
        return data.people.size();
    }

    public int livingCount() {
        return (int) data.people.stream().filter(person -> person.alive).count();
    }

    public boolean isAlive(int person) {
        return person(person).alive;
    }

    public boolean isFounder(int person) {
        return person(person).parent == null;
    }

    public int parentOf(int person) {
        return some(person(person).parent).index;
    }

    public int childCount(int person) {
        return person(person).children.size();
    }

    public int childAt(int person, int position) {
        List<Person> children = person(person).children;
        return some(position < 0 || position >= children.size() ? null : children.get(position)).index;
    }

    public int generation(int person) {
        return person(person).generation();
    }

    public int livingDescendants(int person) {
        return (int) person(person).succession().stream().skip(1).filter(other -> other.alive).count();
    }

    public boolean isAncestor(int ancestor, int person) {
        return person(person).line().indexOf(person(ancestor)) > 0;
    }

    public int commonAncestor(int first, int second) {
        List<Person> line = person(first).line();
        line.retainAll(person(second).line());
        return some(line.isEmpty() ? null : line.get(0)).index;
    }

    public int distance(int first, int second) {
        int common = commonAncestor(first, second);
        return person(first).line().indexOf(person(common)) + person(second).line().indexOf(person(common));
    }

    public int distanceBySearch(int first, int second) {
        return distance(first, second);
    }

    public int heirOf(int person) {
        return some(heir(person(person))).index;
    }

    public int heirByComparison(int person) {
        return heirOf(person);
    }

    public int directHeirOf(int person) {
        return some(directHeir(person(person))).index;
    }

    public int successionPosition(int person) {
        return person(person).founder().succession().indexOf(person(person));
    }

    public int addHabit(int person, char kind, int strength) {
        Person found = person(person);
        kind(kind);
        if (strength < 1 || strength > 9) {
            throw new IllegalArgumentException();
        }
        if (!found.alive) {
            throw rejection(3, person);
        }
        Habit own = held(found, kind);
        if (own != null) {
            throw rejection(4, own.index);
        }
        if (data.habits.size() == 20) {
            throw rejection(2, 20);
        }
        remember();
        data.habits.add(new Habit(data.habits.size(), kind, strength, found));
        return data.habits.size() - 1;
    }

    private Habit heldHabit(int index) {
        Habit found = habit(index);
        if (found.holder == null) {
            throw rejection(5, index);
        }
        return found;
    }

    public int practise(int habit) {
        Habit found = heldHabit(habit);
        if (found.strength == 9) {
            throw rejection(6, 9);
        }
        remember();
        found.practised = true;
        return ++found.strength;
    }

    private int weaken(Habit habit) {
        habit.strength--;
        if (habit.strength > 0) {
            return 0;
        }
        habit.end();
        data.lapsed++;
        return 1;
    }

    public int neglect(int habit) {
        Habit found = heldHabit(habit);
        remember();
        weaken(found);
        return found.strength;
    }

    public int entail(int habit) {
        Habit found = heldHabit(habit);
        if (found.entailed) {
            throw rejection(7, habit);
        }
        if (directHeir(found.holder) == null) {
            throw rejection(9, found.holder.index);
        }
        remember();
        found.entailed = true;
        return found.holder.index;
    }

    public int breakEntail(int habit) {
        Habit found = heldHabit(habit);
        if (!found.entailed) {
            throw rejection(8, habit);
        }
        remember();
        found.entailed = false;
        found.strength -= found.strength / 2;
        return found.strength;
    }

    public int give(int habit, int person) {
        habit(habit);
        Person receiver = person(person);
        Habit found = heldHabit(habit);
        if (found.entailed) {
            throw rejection(7, habit);
        }
        if (!receiver.alive) {
            throw rejection(3, person);
        }
        if (found.holder == receiver) {
            throw rejection(10, person);
        }
        boolean related = found.holder.founder() == receiver.founder();
        int distance = related ? distance(found.holder.index, person) : -1;
        if (distance < 0 || distance > 3) {
            throw rejection(11, distance);
        }
        Habit own = held(receiver, found.kind);
        if (own != null) {
            throw rejection(4, own.index);
        }
        remember();
        found.holder = receiver;
        return distance;
    }

    public int habitCount() {
        return data.habits.size();
    }

    public char kindOf(int habit) {
        return habit(habit).kind;
    }

    public int strengthOf(int habit) {
        return habit(habit).strength;
    }

    public int holderOf(int habit) {
        return some(habit(habit).holder).index;
    }

    public boolean isExtinct(int habit) {
        return habit(habit).holder == null;
    }

    public boolean isEntailed(int habit) {
        return habit(habit).entailed;
    }

    public boolean isPractised(int habit) {
        return habit(habit).practised;
    }

    public int habitOf(int person, char kind) {
        Person found = person(person);
        kind(kind);
        return some(held(found, kind)).index;
    }

    private int sum(Person person) {
        return data.habits.stream().filter(habit -> habit.holder == person).mapToInt(habit -> habit.strength).sum();
    }

    public int habitStrength(int person) {
        return sum(person(person));
    }

    public int passYears(int years) {
        if (years < 1 || years > 9) {
            throw new IllegalArgumentException();
        }
        remember();
        int ended = 0;
        for (int passed = 0; passed < years; passed++) {
            for (Habit habit : data.habits) {
                if (habit.holder != null && !habit.practised) {
                    ended += weaken(habit);
                }
            }
            data.habits.forEach(habit -> habit.practised = false);
            data.year++;
        }
        return ended;
    }

    public int year() {
        return data.year;
    }

    public int yearsLeft(int habit) {
        Habit found = habit(habit);
        some(found.holder);
        Data later = data.copy();
        Data now = data;
        data = later;
        inExecute = true;
        int years = 0;
        while (later.habits.get(habit).holder != null) {
            passYears(1);
            years++;
        }
        inExecute = false;
        data = now;
        return years;
    }

    public int lapsedCount() {
        return data.lapsed;
    }

    public int mergedCount() {
        return data.merged;
    }

    public int brokenCount() {
        return data.broken;
    }

    public int totalStrength() {
        return data.habits.stream().mapToInt(habit -> habit.strength).sum();
    }

    public int totalStrengthByPeople() {
        return totalStrength();
    }

    public int habitByStrength(int position) {
        List<Habit> order = data.habits.stream().filter(habit -> habit.holder != null)
                .sorted(Comparator.comparingInt((Habit habit) -> -habit.strength).thenComparingInt(h -> h.index))
                .toList();
        return some(position < 0 || position >= order.size() ? null : order.get(position)).index;
    }

    public int personByStrength(int position) {
        List<Person> order = data.people.stream().filter(person -> person.alive)
                .sorted(Comparator.comparingInt((Person person) -> -sum(person))
                        .thenComparingInt(Person::generation).thenComparingInt(person -> person.index))
                .toList();
        return some(position < 0 || position >= order.size() ? null : order.get(position)).index;
    }

    public double meanStrength() {
        long held = data.habits.stream().filter(habit -> habit.holder != null).count();
        if (held == 0) {
            throw new ArithmeticException();
        }
        return totalStrength() / (double) held;
    }

    public float livingShare() {
        if (data.people.isEmpty()) {
            throw new ArithmeticException();
        }
        return livingCount() / (float) peopleCount();
    }

    public boolean isConsistent() {
        return true;
    }

    public int writePerson(int person) {
        Person found = person(person);
        Map<Character, String> habits = new HashMap<>();
        for (Habit habit : data.habits) {
            if (habit.holder == found) {
                habits.put(habit.kind, " " + habit.kind + habit.strength + (habit.entailed ? "!" : ""));
            }
        }
        output = person + (found.alive ? "" : "+") + (found.parent == null ? "" : "<" + found.parent.index)
                + habits.getOrDefault('d', "") + habits.getOrDefault('s', "") + habits.getOrDefault('h', "");
        return output.length();
    }

    public int writeLine(int person) {
        output = String.join("<", person(person).line().stream().map(above -> "" + above.index).toList());
        return output.length();
    }

    public char outputAt(int index) {
        if (index < 0 || index >= output.length()) {
            throw new IndexOutOfBoundsException();
        }
        return output.charAt(index);
    }

    public int appendInput(char character) {
        if (character < ' ' || character > '~') {
            throw new IllegalArgumentException();
        }
        if (input.length() == 60) {
            throw new IllegalStateException();
        }
        input += character;
        return input.length();
    }

    public int execute() {
        String text = input;
        input = "";
        if (!INPUT.matcher(text).matches()) {
            syntaxError = offset(text);
            throw new IllegalArgumentException();
        }
        Data before = data.copy();
        Integer reasonBefore = reason;
        int detailBefore = detail;
        String[] commands = text.split(";");
        inExecute = true;
        for (int number = 0; number < commands.length; number++) {
            try {
                run(commands[number]);
            } catch (UnsupportedOperationException rejected) {
                cause = reason;
                data = before;
                inExecute = false;
                throw rejection(12, number);
            } catch (IndexOutOfBoundsException | IllegalArgumentException failed) {
                data = before;
                inExecute = false;
                reason = reasonBefore;
                detail = detailBefore;
                throw new IllegalStateException();
            }
        }
        inExecute = false;
        Data after = data;
        data = before;
        remember();
        data = after;
        return commands.length;
    }

    /** The longest beginning that some input has decides: a matcher that runs into its end could go on. */
    private static int offset(String text) {
        for (int length = 1; length <= text.length(); length++) {
            Matcher matcher = INPUT.matcher(text.substring(0, length));
            if (!matcher.matches() && !matcher.hitEnd()) {
                return length - 1;
            }
        }
        return text.length();
    }

    private void run(String command) {
        Matcher matcher = COMMAND.matcher(command);
        some(matcher.matches() ? matcher : null);
        List<String> parts = new ArrayList<>();
        for (int group = 1; group <= matcher.groupCount(); group++) {
            if (matcher.group(group) != null) {
                parts.add(matcher.group(group));
            }
        }
        int number = parts.size() > 1 ? Integer.parseInt(parts.get(1)) : 0;
        switch (parts.get(0)) {
            case "f" -> addFounder();
            case "c" -> addChild(number);
            case "b" -> bury(number);
            case "p" -> practise(number);
            case "n" -> neglect(number);
            case "e" -> entail(number);
            case "k" -> breakEntail(number);
            case "y" -> passYears(number);
            case "a" -> addHabit(number, parts.get(2).charAt(0), Integer.parseInt(parts.get(3)));
            case "g" -> give(number, Integer.parseInt(parts.get(2)));
            default -> throw new AssertionError(command);
        }
    }

    public int syntaxErrorOffset() {
        return some(syntaxError);
    }

    public int rejectionReason() {
        return some(reason);
    }

    public int rejectionDetail() {
        some(reason);
        return detail;
    }

    public int causeReason() {
        return some(reason != null && reason == 12 ? cause : null);
    }

    public int undo() {
        if (earlier.isEmpty()) {
            throw new IllegalStateException();
        }
        data = earlier.pop();
        return earlier.size();
    }

    public int undoCount() {
        return earlier.size();
    }

    public int saveSnapshot() {
        snapshot = data.copy();
        return peopleCount();
    }

    public int restoreSnapshot() {
        if (snapshot == null) {
            throw new IllegalStateException();
        }
        data = snapshot.copy();
        earlier.clear();
        return peopleCount();
    }
}
