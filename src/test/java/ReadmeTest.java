import java.io.IOException;
import java.lang.reflect.Method;
import java.lang.reflect.Modifier;
import java.nio.file.Files;
import java.nio.file.Path;
import java.util.Arrays;
import java.util.HashSet;
import java.util.List;
import java.util.Set;
import java.util.regex.Matcher;
import java.util.regex.Pattern;

/** The example of README.md: each answer that it tells is the one that the class gives. */
public final class ReadmeTest {
    private static final Pattern NEW = Pattern.compile("ProcessHeaps x = new ProcessHeaps\\((\\d+)\\);");
    private static final Pattern CALL = Pattern.compile("x\\.(\\w+)\\(([^)]*)\\); +// (-?\\w+)(: .+)?");

    private ReadmeTest() {
    }

    /** The lines of code that are more than a comment. */
    private static List<String> example() throws IOException {
        String text = Files.readString(Path.of("README.md"));
        int begin = text.indexOf("```java\n") + "```java\n".length();
        String code = text.substring(begin, text.indexOf("```", begin));
        return code.lines().filter(line -> !line.isBlank() && !line.startsWith("//")).toList();
    }

    private static Method method(String name) {
        return Arrays.stream(ProcessHeaps.class.getDeclaredMethods())
                .filter(method -> Modifier.isPublic(method.getModifiers()) && method.getName().equals(name))
                .findFirst().orElseThrow();
    }

    private static Object answer(ProcessHeaps x, Method method, String[] told) throws ReflectiveOperationException {
        Class<?>[] types = method.getParameterTypes();
        Object[] arguments = new Object[told.length];
        for (int i = 0; i < told.length; i++) {
            arguments[i] = types[i] == boolean.class ? (Object) Boolean.valueOf(told[i]) : (Object) Integer.valueOf(told[i]);
        }
        return method.invoke(x, arguments);
    }

    /** A constant of the class is told by its name. */
    private static String value(String told) throws ReflectiveOperationException {
        boolean isName = told.matches("[A-Z]+");
        return isName ? String.valueOf(ProcessHeaps.class.getField(told).get(null)) : told;
    }

    @Sentence(promise = {2, 3, 4, 5, 6, 7, 8, 9, 10, 11, 12, 13, 14, 15, 16, 17, 18, 19, 20, 21},
            words = "Nothing is promised beyond the answers and state changes described above")
    static void exampleTellsTheAnswers(Check check) throws IOException, ReflectiveOperationException {
        List<String> lines = example();
        Matcher first = NEW.matcher(lines.get(0));
        check.due("the example begins with a new object", first.matches(), true);
        ProcessHeaps x = new ProcessHeaps(Integer.parseInt(first.group(1)));
        Set<String> used = new HashSet<>();
        for (String line : lines.subList(1, lines.size())) {
            Matcher call = CALL.matcher(line);
            check.due(line + " is a call with its answer", call.matches(), true);
            Object got = answer(x, method(call.group(1)), call.group(2).split(", "));
            check.due(line + " which answered " + got, String.valueOf(got).equals(value(call.group(3))), true);
            used.add(call.group(1));
        }
        for (Method method : ProcessHeaps.class.getDeclaredMethods()) {
            if (Modifier.isPublic(method.getModifiers())) {
                check.due(method.getName() + " is shown", used.contains(method.getName()), true);
            }
        }
    }

    public static void main(String[] args) throws Exception {
        Tests.run(ReadmeTest.class);
    }
}
