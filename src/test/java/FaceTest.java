import java.lang.reflect.Constructor;
import java.lang.reflect.Field;
import java.lang.reflect.Method;
import java.lang.reflect.Modifier;
import java.util.Set;
import java.util.TreeSet;

/** The class shows the document's face and nothing else. */
public final class FaceTest {
    private static final Set<String> FACE = Set.of(
            "int BAD = -1", "int EMPTY = -2", "int FOREIGN = -3", "int FULL = -4", "int LIMIT = -5",
            "new(int)",
            "int spawn(int,int,boolean)", "boolean kill(int)", "boolean mode(int,boolean)",
            "int make(int,int,int,int)", "int store(int,int,int,int)", "int load(int,int,int,int)",
            "boolean move(int,int,int)", "int begin(int)", "int freeze(int,int)", "int lookup(int,int,int)",
            "int collect(int)", "int state(int)", "int pages(int)", "int objects(int)", "int items(int)",
            "int use(int)", "int room(int)", "boolean shares(int,int)", "int where(int,int)", "int tag(int,int)");

    private FaceTest() {
    }

    private static String types(Class<?>[] parameters) {
        StringBuilder text = new StringBuilder();
        for (Class<?> parameter : parameters) {
            text.append(text.length() == 0 ? "" : ",").append(parameter);
        }
        return "(" + text + ")";
    }

    private static Set<String> visibleMembers() throws IllegalAccessException {
        Set<String> seen = new TreeSet<>();
        for (Field field : ProcessHeaps.class.getDeclaredFields()) {
            if (!Modifier.isPrivate(field.getModifiers())) {
                seen.add(field.getType() + " " + field.getName() + " = " + field.get(null));
            }
        }
        for (Constructor<?> constructor : ProcessHeaps.class.getDeclaredConstructors()) {
            if (!Modifier.isPrivate(constructor.getModifiers())) {
                seen.add("new" + types(constructor.getParameterTypes()));
            }
        }
        for (Method method : ProcessHeaps.class.getDeclaredMethods()) {
            if (!Modifier.isPrivate(method.getModifiers())) {
                seen.add(method.getReturnType() + " " + method.getName() + types(method.getParameterTypes()));
            }
        }
        return seen;
    }

    @Sentence(promise = {1, 2, 3, 4, 5, 6, 7, 8, 9, 10, 11, 12, 13, 14, 15, 16, 17, 18, 19, 20, 21}, words = "The public face")
    static void membersAreThoseOfTheDocument(Check check) throws IllegalAccessException {
        Set<String> seen = visibleMembers();
        for (String member : FACE) {
            check.due("there is " + member, seen.contains(member), true);
        }
        for (String member : seen) {
            check.due("the document has " + member, FACE.contains(member), true);
        }
    }

    @Sentence(promise = {2, 5, 6, 20}, words = "The constants: `BAD = -1`")
    static void constantsHaveTheirValues(Check check) {
        check.due("BAD", ProcessHeaps.BAD, -1);
        check.due("EMPTY", ProcessHeaps.EMPTY, -2);
        check.due("FOREIGN", ProcessHeaps.FOREIGN, -3);
        check.due("FULL", ProcessHeaps.FULL, -4);
        check.due("LIMIT", ProcessHeaps.LIMIT, -5);
    }

    @Sentence(promise = 1, words = "public final class ProcessHeaps {")
    static void classIsPublicAndFinal(Check check) {
        int modifiers = ProcessHeaps.class.getModifiers();
        check.due("the class is public", Modifier.isPublic(modifiers), true);
        check.due("the class is final", Modifier.isFinal(modifiers), true);
        for (Class<?> inside : ProcessHeaps.class.getDeclaredClasses()) {
            check.due(inside + " is static", Modifier.isStatic(inside.getModifiers()), true);
            check.due(inside + " is public", Modifier.isPublic(inside.getModifiers()), false);
        }
    }

    public static void main(String[] args) throws Exception {
        Tests.run(FaceTest.class);
    }
}
