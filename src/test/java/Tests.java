import java.lang.reflect.InvocationTargetException;
import java.lang.reflect.Method;
import java.util.Arrays;
import java.util.Comparator;

/** Runs the methods of a class that bear a sentence, each with a Check of its own. */
final class Tests {
    private Tests() {
    }

    static void run(Class<?> tests) throws IllegalAccessException {
        Method[] methods = tests.getDeclaredMethods();
        Arrays.sort(methods, Comparator.comparing(Method::getName));
        int held = 0;
        int broken = 0;
        for (Method method : methods) {
            if (takesCheck(method)) {
                if (holds(method)) {
                    held++;
                } else {
                    broken++;
                }
            }
        }
        System.out.println(held + " sentences hold, " + broken + " do not");
        if (broken != 0 || held == 0) {
            System.exit(1);
        }
    }

    private static boolean takesCheck(Method method) {
        return Arrays.equals(method.getParameterTypes(), new Class<?>[] {Check.class});
    }

    private static boolean holds(Method method) throws IllegalAccessException {
        Check check = new Check();
        try {
            method.invoke(null, check);
        } catch (InvocationTargetException thrown) {
            check.fail("a call threw " + thrown.getCause());
        }
        Sentence sentence = method.getAnnotation(Sentence.class);
        if (sentence == null) {
            check.fail("the test names no sentence");
        }
        if (check.isPassed()) {
            return true;
        }
        System.out.println("BROKEN " + method.getName() + ", " + named(sentence));
        check.wrong().forEach(line -> System.out.println("    " + line));
        return false;
    }

    private static String named(Sentence sentence) {
        return sentence == null ? "" : "promise " + Arrays.toString(sentence.promise()) + ": " + sentence.words();
    }
}
