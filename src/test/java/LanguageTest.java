import java.io.IOException;
import java.lang.reflect.Field;
import java.lang.reflect.Method;
import java.lang.reflect.Modifier;
import java.nio.file.Files;
import java.nio.file.Path;
import java.util.ArrayList;
import java.util.Arrays;
import java.util.HashSet;
import java.util.List;
import java.util.Set;
import java.util.regex.Matcher;
import java.util.regex.Pattern;

/** The rules of LANGUAGE.md that can be seen in the text of the program or in its compiled classes. */
public final class LanguageTest {
    private static final Path PROGRAM = Path.of("src/main/java/ProcessHeaps.java");
    private static final Set<Class<?>> CONSTANTS = Set.of(int.class, long.class, boolean.class, char.class, String.class);

    private LanguageTest() {
    }

    private static String withoutComments() throws IOException {
        return Files.readString(PROGRAM).replaceAll("(?s)/\\*.*?\\*/", "").replaceAll("//[^\n]*", "");
    }

    private static List<String> allOf(String pattern) throws IOException {
        List<String> found = new ArrayList<>();
        Matcher matcher = Pattern.compile(pattern).matcher(withoutComments());
        while (matcher.find()) {
            found.add(matcher.group());
        }
        return found;
    }

    private static void dueNone(Check check, String what, String pattern) throws IOException {
        List<String> found = allOf(pattern);
        check.due(what + ": " + found, found.isEmpty(), true);
    }

    private static List<Class<?>> classes() {
        List<Class<?>> all = new ArrayList<>(List.of(ProcessHeaps.class.getDeclaredClasses()));
        all.add(ProcessHeaps.class);
        return all;
    }

    @Sentence(promise = {}, words = "No private method bears the name of a public one.")
    static void privateMethodsHaveNamesOfTheirOwn(Check check) {
        Set<String> face = new HashSet<>();
        for (Method method : ProcessHeaps.class.getDeclaredMethods()) {
            if (Modifier.isPublic(method.getModifiers())) {
                check.due("there is one " + method.getName(), face.add(method.getName()), true);
            }
        }
        for (Class<?> each : classes()) {
            for (Method method : each.getDeclaredMethods()) {
                boolean isFace = each == ProcessHeaps.class && Modifier.isPublic(method.getModifiers());
                check.due(method + " has a name of its own", isFace || !face.contains(method.getName()), true);
            }
        }
    }

    @Sentence(promise = {},
            words = "No inner class that isn't static, no local or anonymous class, no lambda, no method reference.")
    static void classesInsideAreStatic(Check check) throws IOException {
        for (Class<?> inside : ProcessHeaps.class.getDeclaredClasses()) {
            check.due(inside + " is static", Modifier.isStatic(inside.getModifiers()), true);
            check.due(inside + " has no class inside", inside.getDeclaredClasses().length, 0);
        }
        check.due("classes in the text", allOf("\\b(class|interface|enum|record)\\s+\\w+").size(), classes().size());
        dueNone(check, "lambdas and method references", "->|::");
        dueNone(check, "anonymous classes", "new\\s+[\\w<>]+\\s*\\([^)]*\\)\\s*\\{");
    }

    @Sentence(promise = {}, words = "The library: only what stands here.")
    static void libraryIsSmall(Check check) throws IOException {
        for (String line : allOf("(?m)^(import|package)\\b[^\n]*")) {
            check.due(line + " is one of those that are allowed", line.equals("import java.util.ArrayList;"), true);
        }
        dueNone(check, "classes by their full names", "(?<!import )\\bjava\\.");
        for (String call : allOf("\\b(Math|System|Integer|Long|Arrays|Thread|Runtime|Object|String)\\b\\.?\\w*")) {
            check.due(call + " is one of those that are allowed", Set.of("Math.max", "Math.min").contains(call), true);
        }
    }

    @Sentence(promise = {}, words = "Static fields are final")
    static void staticFieldsAreConstants(Check check) {
        for (Class<?> each : classes()) {
            for (Field field : each.getDeclaredFields()) {
                if (Modifier.isStatic(field.getModifiers())) {
                    check.due(field + " is final", Modifier.isFinal(field.getModifiers()), true);
                    check.due(field + " is a constant", CONSTANTS.contains(field.getType()), true);
                }
            }
        }
    }

    @Sentence(promise = {},
            words = "No throw, try, catch, synchronized, assert, switch with patterns, record patterns.")
    static void wordsAreNotUsed(Check check) throws IOException {
        dueNone(check, "words that the rules leave out",
                "\\b(throws?|try|catch|finally|synchronized|assert|volatile|native|equals|hashCode|toString)\\b");
    }

    @Sentence(promise = {}, words = "A method takes at most seven parameters.")
    static void methodsAndClassesAreSmall(Check check) {
        check.due("at most twelve classes", classes().size() <= 12, true);
        for (Class<?> each : classes()) {
            long fields = Arrays.stream(each.getDeclaredFields())
                    .filter(field -> !Modifier.isStatic(field.getModifiers())).count();
            check.due(each + " has at most twenty fields", fields <= 20, true);
            for (Method method : each.getDeclaredMethods()) {
                check.due(method + " takes at most seven", method.getParameterCount() <= 7, true);
            }
        }
    }

    public static void main(String[] args) throws Exception {
        Tests.run(LanguageTest.class);
    }
}
