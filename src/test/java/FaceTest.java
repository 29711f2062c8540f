import java.io.IOException;
import java.lang.reflect.Constructor;
import java.lang.reflect.Field;
import java.lang.reflect.Method;
import java.lang.reflect.Modifier;
import java.nio.file.Files;
import java.nio.file.Path;
import java.util.ArrayList;
import java.util.Arrays;
import java.util.List;
import java.util.Set;
import java.util.TreeMap;
import java.util.TreeSet;
import java.util.regex.Matcher;
import java.util.regex.Pattern;

/** The public face, as the document prints it, and some rules of LANGUAGE.md that a program can look after. */
public final class FaceTest {
    private static final Checks CHECKS = new Checks("FaceTest");
    private static final Path ROOT = Path.of(System.getProperty("project.root", "."));

    public static void main(String[] arguments) throws IOException {
        members();
        constants();
        privateNames();
        language();
        CHECKS.end();
    }

    private static Set<String> documented() throws IOException {
        String text = Files.readString(ROOT.resolve("../shared/DOC.md"));
        String face = text.substring(text.indexOf("public final class HabitRegistry {"), text.indexOf("## Terms"));
        Set<String> members = new TreeSet<>();
        for (String line : face.split("\n")) {
            String trimmed = line.trim();
            if (trimmed.startsWith("public ") && trimmed.endsWith(";")) {
                members.add(trimmed.replaceAll("(int|char) \\w+(?=[,)])", "$1").replace(";", ""));
            }
        }
        return members;
    }

    private static String thrown(Class<?>[] types) {
        List<String> names = new ArrayList<>();
        for (Class<?> type : types) {
            names.add(type.getSimpleName());
        }
        return names.isEmpty() ? "" : " throws " + String.join(", ", names);
    }

    private static String taken(Class<?>[] types) {
        return "(" + String.join(", ", Arrays.stream(types).map(Class::getSimpleName).toList()) + ")";
    }

    private static void members() throws IOException {
        Set<String> found = new TreeSet<>();
        for (Method method : HabitRegistry.class.getDeclaredMethods()) {
            if (!Modifier.isPrivate(method.getModifiers())) {
                found.add(Modifier.toString(method.getModifiers()) + " " + method.getReturnType().getSimpleName() + " "
                        + method.getName() + taken(method.getParameterTypes()) + thrown(method.getExceptionTypes()));
            }
        }
        for (Constructor<?> constructor : HabitRegistry.class.getDeclaredConstructors()) {
            found.add(Modifier.toString(constructor.getModifiers()) + " HabitRegistry"
                    + taken(constructor.getParameterTypes()) + thrown(constructor.getExceptionTypes()));
        }
        for (Field field : HabitRegistry.class.getDeclaredFields()) {
            if (!Modifier.isPrivate(field.getModifiers())) {
                found.add(Modifier.toString(field.getModifiers()) + " int " + field.getName() + " = " + value(field));
            }
        }
        CHECKS.dueText("members", String.join("\n", documented()), String.join("\n", found));
        CHECKS.due("final", true, Modifier.isFinal(HabitRegistry.class.getModifiers()));
    }

    private static String value(Field field) {
        try {
            return String.valueOf(field.getInt(null));
        } catch (IllegalAccessException refused) {
            return "not to be read";
        }
    }

    private static void constants() {
        int[] found = {HabitRegistry.PEOPLE_LIMIT, HabitRegistry.HABIT_LIMIT, HabitRegistry.DEAD,
            HabitRegistry.HAS_KIND, HabitRegistry.EXTINCT, HabitRegistry.FULL_STRENGTH, HabitRegistry.ENTAILED,
            HabitRegistry.NOT_ENTAILED, HabitRegistry.NO_DIRECT_HEIR, HabitRegistry.SAME_HOLDER,
            HabitRegistry.TOO_DISTANT, HabitRegistry.COMMAND_REJECTED};
        for (int position = 0; position < found.length; position++) {
            CHECKS.due("constant", position + 1, found[position]);
        }
    }

    /** Rule 1: no private method bears the name of a public one. */
    private static void privateNames() {
        Set<String> open = new TreeSet<>();
        for (Method method : HabitRegistry.class.getMethods()) {
            open.add(method.getName());
        }
        List<Class<?>> classes = new ArrayList<>(List.of(HabitRegistry.class.getDeclaredClasses()));
        classes.add(HabitRegistry.class);
        for (Class<?> inside : classes) {
            for (Method method : inside.getDeclaredMethods()) {
                boolean same = open.contains(method.getName()) && !Modifier.isPublic(method.getModifiers());
                CHECKS.due(inside.getName() + "." + method.getName() + " bears a public name", false, same);
            }
            long own = Arrays.stream(inside.getDeclaredFields())
                    .filter(field -> !Modifier.isStatic(field.getModifiers())).count();
            CHECKS.due(inside.getName() + " has at most twenty fields", true, own <= 20);
        }
        CHECKS.due("at most twelve classes", true, classes.size() <= 12);
    }

    private static void language() throws IOException {
        String source = Files.readString(ROOT.resolve("src/main/java/HabitRegistry.java"));
        String code = source.replaceAll("(?s)/\\*.*?\\*/", "").replaceAll("//[^\n]*", "");
        CHECKS.due("signs 1 to 127 alone", true, source.chars().allMatch(sign -> sign < 128));
        for (String word : List.of("->", "::", "try", "catch", "finally", "assert", "synchronized", "package",
                "Exact(", "protected", "hashCode", "toString", "currentTimeMillis", "nanoTime", "Random")) {
            String pattern = Pattern.quote(word);
            boolean stands = Pattern.compile(word.matches("\\w+") ? "\\b" + pattern + "\\b" : pattern)
                    .matcher(code).find();
            CHECKS.due("'" + word + "' stands in the code", false, stands);
        }
        Matcher imports = Pattern.compile("(?m)^import .*$").matcher(code);
        List<String> found = new ArrayList<>();
        while (imports.find()) {
            found.add(imports.group());
        }
        CHECKS.dueText("imports", "[import java.util.NoSuchElementException;]", found.toString());
        for (var method : lengths(code).entrySet()) {
            CHECKS.due(method.getKey() + " has at most sixty lines", true, method.getValue() <= 60);
        }
    }

    /** The lines of each method, told by the indentation of its first and its last line. */
    private static TreeMap<String, Integer> lengths(String code) {
        TreeMap<String, Integer> lengths = new TreeMap<>();
        String[] lines = code.split("\n");
        for (int start = 0; start < lines.length; start++) {
            Matcher head = Pattern.compile("^( {4}| {8})(?=\\S)(?!return|if|for|while|switch)[^=;]*\\(.*$")
                    .matcher(lines[start]);
            if (head.find() && !lines[start].contains(";")) {
                int end = start;
                while (end < lines.length && !lines[end].equals(head.group(1) + "}")) {
                    end++;
                }
                lengths.put("line " + (start + 1) + lines[start].trim(), end - start + 1);
            }
        }
        return lengths;
    }
}
