import java.lang.reflect.InvocationTargetException;
import java.lang.reflect.Method;
import java.util.ArrayList;
import java.util.Arrays;
import java.util.Comparator;
import java.util.List;

/** Long runs of calls, each call made on a HabitRegistry and on a Model, which have to answer the same. */
public final class ModelTest {
    private static final int RUNS = 1500;
    private static final int CALLS = 512;
    private static final List<String> CHANGES = List.of("addFounder", "addChild", "addChild", "addChild", "bury",
            "addHabit", "addHabit", "addHabit", "practise", "neglect", "entail", "entail", "breakEntail", "give",
            "give", "passYears", "text", "undo");
    private static final String COMMANDS = "fcbaaapneeekggyc";

    private final Checks checks = new Checks("ModelTest");
    private final List<Method> methods = new ArrayList<>();
    private long seed = 20261119;

    private HabitRegistry registry;
    private Model model;
    private final List<String> calls = new ArrayList<>();
    private boolean differs;

    public static void main(String[] arguments) throws ReflectiveOperationException {
        ModelTest test = new ModelTest();
        for (int run = 0; run < RUNS && !test.differs; run++) {
            test.run(run);
        }
        test.checks.end();
    }

    private ModelTest() {
        for (Method method : HabitRegistry.class.getDeclaredMethods()) {
            if (java.lang.reflect.Modifier.isPublic(method.getModifiers())) {
                methods.add(method);
            }
        }
        methods.sort(Comparator.comparing(Method::getName));
    }

    /** A row of numbers that is the same in each run of this test. */
    private int below(int bound) {
        seed = seed * 6364136223846793005L + 1442695040888963407L;
        return (int) Long.remainderUnsigned(seed >>> 33, bound);
    }

    private void run(int run) throws ReflectiveOperationException {
        registry = new HabitRegistry();
        model = new Model();
        calls.clear();
        int changesOfTen = 2 + below(8);
        while (calls.size() < CALLS && !differs) {
            if (below(10) < changesOfTen) {
                change(CHANGES.get(below(CHANGES.size())));
            } else {
                call(methods.get(below(methods.size())));
            }
        }
    }

    private void change(String name) throws ReflectiveOperationException {
        if (name.equals("text")) {
            text();
        } else {
            call(named(name));
        }
    }

    private Method named(String name) {
        return methods.stream().filter(method -> method.getName().equals(name)).findFirst().orElseThrow();
    }

    private void text() throws ReflectiveOperationException {
        StringBuilder text = new StringBuilder();
        int commands = 1 + below(below(3) == 0 ? 14 : 4);
        for (int command = 0; command < commands; command++) {
            text.append(command == 0 ? "" : ";").append(command());
        }
        if (below(4) == 0 && text.length() > 0) {
            int place = below(text.length() + 1);
            int kind = below(3);
            text.replace(place, Math.min(text.length(), place + (kind == 0 ? 0 : 1)),
                    kind == 1 ? "" : "" + "fcabgy;>dsh0123 x~".charAt(below(18)));
        }
        for (int index = 0; index < text.length() && calls.size() < CALLS && !differs; index++) {
            call(named("appendInput"), text.charAt(index));
        }
        if (calls.size() < CALLS && !differs) {
            call(named("execute"));
        }
    }

    private String command() {
        char letter = COMMANDS.charAt(below(COMMANDS.length()));
        String person = number(model.peopleCount() + (below(8) == 0 ? 1 : 0));
        String habit = number(model.habitCount() + (below(8) == 0 ? 1 : 0));
        return switch (letter) {
            case 'f' -> "f";
            case 'c', 'b' -> letter + person;
            case 'a' -> "a" + person + "dsh".charAt(below(3)) + below(10);
            case 'g' -> "g" + habit + ">" + person;
            case 'y' -> "y" + below(4);
            default -> letter + habit;
        };
    }

    private String number(int bound) {
        int number = below(Math.max(bound, 1));
        return number < 10 && below(6) == 0 ? "0" + number : "" + number;
    }

    private Object argument(Method method, int position) {
        Class<?> type = method.getParameterTypes()[position];
        if (type == char.class) {
            boolean isKind = !method.getName().equals("appendInput");
            return isKind && below(12) > 0 ? "dsh".charAt(below(3)) : (char) (below(8) == 0 ? below(65536) : below(130));
        }
        switch (below(24)) {
            case 0:
                return -1;
            case 1:
                return new int[] {Integer.MIN_VALUE, Integer.MAX_VALUE, 16, 20, 60, -2}[below(6)];
            case 2:
                return Math.max(model.peopleCount(), model.habitCount());
            default:
        }
        String name = method.getName();
        if (name.equals("passYears") || name.equals("childAt")) {
            return below(position + 3 + below(8));
        }
        if (name.equals("addHabit") && position == 2) {
            return 1 + below(9);
        }
        boolean ofHabits = name.matches("practise|neglect|entail|breakEntail|.*[a-z]Of|is.*|yearsLeft|habitByStrength")
                && below(2) == 0;
        boolean habit = ofHabits || name.equals("give") && position == 0
                || List.of("practise", "neglect", "entail", "breakEntail").contains(name);
        return below(Math.max(1, habit ? model.habitCount() : model.peopleCount()));
    }

    private void call(Method method, Object... given) throws ReflectiveOperationException {
        Object[] arguments = given;
        if (given.length != method.getParameterCount()) {
            arguments = new Object[method.getParameterCount()];
            for (int position = 0; position < arguments.length; position++) {
                arguments[position] = argument(method, position);
            }
        }
        String want = outcome(Model.class.getMethod(method.getName(), method.getParameterTypes()), model, arguments);
        String got = outcome(method, registry, arguments);
        String text = method.getName() + Arrays.toString(arguments);
        calls.add(text + " -> " + got);
        checks.dueText(text, want, got);
        if (!want.equals(got)) {
            differs = true;
            System.out.println(String.join("\n", calls));
        }
    }

    private static String outcome(Method method, Object object, Object[] arguments) throws ReflectiveOperationException {
        try {
            method.setAccessible(true);
            return String.valueOf(method.invoke(object, arguments));
        } catch (InvocationTargetException failed) {
            return "throws " + failed.getCause().getClass().getName();
        }
    }
}
