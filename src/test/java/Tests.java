import java.io.IOException;
import java.lang.reflect.InvocationTargetException;
import java.lang.reflect.Method;
import java.nio.file.Files;
import java.nio.file.Path;
import java.util.Arrays;
import java.util.Comparator;

/** Runs the methods of a class that bear a sentence, each with a Check of its own. */
final class Tests {
    /** Far above what any test class needs, so that only a call that does not end comes there. */
    private static final long MILLISECONDS = 300_000;

    private Tests() {
    }

    static void run(Class<?> tests) throws IllegalAccessException, IOException {
        failIfACallDoesNotEnd();
        String documents = words("../shared/DOC.md") + words("../shared/LANGUAGE.md");
        Method[] methods = tests.getDeclaredMethods();
        Arrays.sort(methods, Comparator.comparing(Method::getName));
        int held = 0;
        int broken = 0;
        for (Method method : methods) {
            if (takesCheck(method)) {
                if (holds(method, documents)) {
                    held++;
                } else {
                    broken++;
                }
            }
        }
        System.out.println(held + " sentences hold, " + broken + " do not");
        if (broken != 0 || held == 0) {
            System.exit(1);
        }
    }

    private static void failIfACallDoesNotEnd() {
        Thread guard = new Thread(() -> {
            try {
                Thread.sleep(MILLISECONDS);
                System.out.println("a call does not end");
            } catch (InterruptedException interrupted) {
                System.out.println("the guard was interrupted");
            }
            Runtime.getRuntime().halt(1);
        });
        guard.setDaemon(true);
        guard.start();
    }

    /** The text of a file in one line, since its sentences go over the ends of lines. */
    private static String words(String file) throws IOException {
        return Files.readString(Path.of(file)).replaceAll("\\s+", " ");
    }

    private static boolean takesCheck(Method method) {
        return Arrays.equals(method.getParameterTypes(), new Class<?>[] {Check.class});
    }

    private static boolean holds(Method method, String documents) throws IllegalAccessException {
        Check check = new Check();
        try {
            method.invoke(null, check);
        } catch (InvocationTargetException thrown) {
            check.fail("a call threw " + thrown.getCause());
        }
        Sentence sentence = method.getAnnotation(Sentence.class);
        if (sentence == null) {
            check.fail("the test names no sentence");
        } else if (!documents.contains(sentence.words())) {
            check.fail("these words do not stand in the document");
        }
        if (check.isPassed()) {
            return true;
        }
        System.out.println("BROKEN " + method.getName() + ", " + named(sentence));
        check.wrong().forEach(line -> System.out.println("    " + line));
        return false;
    }

    private static String named(Sentence sentence) {
        return sentence == null ? "" : "promise " + Arrays.toString(sentence.promise()) + ": " + sentence.words();
    }
}
