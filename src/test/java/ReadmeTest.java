import java.io.IOException;
import java.lang.reflect.InvocationTargetException;
import java.lang.reflect.Method;
import java.nio.file.Files;
import java.nio.file.Path;
import java.util.Arrays;
import java.util.HashMap;
import java.util.Map;
import java.util.regex.Matcher;
import java.util.regex.Pattern;

/** The examples of README.md: what stands behind each call, up to a colon, is what the call answers. */
public final class ReadmeTest {
    private static final Checks CHECKS = new Checks("ReadmeTest");
    private static final Path ROOT = Path.of(System.getProperty("project.root", "."));
    private static final Pattern CODE = Pattern.compile("(?s)```java\n(.*?)```");
    private static final Pattern CALL =
            Pattern.compile("(?:int (\\w+) = )?registry\\.(\\w+)\\((.*?)\\); +// ([^:]*)(?:: .*)?");
    private static final Pattern INPUT = Pattern.compile("for \\(char character : \"(.*)\"\\.toCharArray\\(\\)\\) \\{");

    private HabitRegistry registry;
    private final Map<String, Integer> names = new HashMap<>();

    public static void main(String[] arguments) throws IOException {
        ReadmeTest test = new ReadmeTest();
        Matcher code = CODE.matcher(Files.readString(ROOT.resolve("README.md")));
        while (code.find()) {
            for (String line : code.group(1).split("\n")) {
                test.run(line.strip());
            }
        }
        CHECKS.end();
    }

    private void run(String line) {
        Matcher call = CALL.matcher(line);
        Matcher input = INPUT.matcher(line);
        if (call.matches()) {
            String got = outcome(call.group(2), call.group(3).isEmpty() ? new String[0] : call.group(3).split(", "));
            CHECKS.dueText(line, call.group(4), got);
            if (call.group(1) != null) {
                names.put(call.group(1), Integer.parseInt(got));
            }
        } else if (input.matches()) {
            Checks.append(registry, input.group(1));
        } else if (line.equals("HabitRegistry registry = new HabitRegistry();")) {
            registry = new HabitRegistry();
        } else {
            boolean isRestOfInput = line.equals("registry.appendInput(character);") || line.equals("}");
            CHECKS.due("'" + line + "' is understood", true, isRestOfInput);
        }
    }

    private String outcome(String name, String[] texts) {
        Method method = Arrays.stream(HabitRegistry.class.getMethods())
                .filter(other -> other.getName().equals(name)).findFirst().orElseThrow();
        Object[] values = Arrays.stream(texts).map(this::value).toArray();
        try {
            return String.valueOf(method.invoke(registry, values));
        } catch (InvocationTargetException thrown) {
            return "throws " + thrown.getCause().getClass().getSimpleName();
        } catch (IllegalAccessException refused) {
            return "not to be called";
        }
    }

    private Object value(String text) {
        if (text.startsWith("'")) {
            return text.charAt(1);
        }
        return names.containsKey(text) ? names.get(text) : (Integer) Integer.parseInt(text);
    }
}
