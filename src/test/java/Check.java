import java.util.ArrayList;
import java.util.List;
import java.util.function.Predicate;
import java.util.function.ToIntFunction;

/** Holds answers against those that are due, and a call that is refused against the state that it must leave. */
final class Check {
    private final List<String> wrong = new ArrayList<>();
    private int asked = 0;

    void due(String what, int got, int want) {
        asked++;
        if (got != want) {
            wrong.add(what + ": answered " + got + ", due is " + want);
        }
    }

    void due(String what, boolean got, boolean want) {
        asked++;
        if (got != want) {
            wrong.add(what + ": answered " + got + ", due is " + want);
        }
    }

    void fail(String what) {
        wrong.add(what);
    }

    /** The call gives this answer and changes nothing. */
    void refused(String what, Scene scene, ToIntFunction<ProcessHeaps> call, int answer) {
        due(what, call.applyAsInt(scene.make()), answer);
        same(what, scene.then(call::applyAsInt), scene);
    }

    /** The call answers false and changes nothing. */
    void refused(String what, Scene scene, Predicate<ProcessHeaps> call) {
        due(what, call.test(scene.make()), false);
        same(what, scene.then(call::test), scene);
    }

    /** The call answers LIMIT and does what a collection of this heap does, no less and no more. */
    void limited(String what, Scene scene, ToIntFunction<ProcessHeaps> call, int heap) {
        due(what, call.applyAsInt(scene.make()), ProcessHeaps.LIMIT);
        same(what, scene.then(call::applyAsInt), scene.then(x -> x.collect(heap)));
    }

    /** No call can tell what the one scene leaves from what the other one leaves. */
    void same(String what, Scene got, Scene want) {
        asked++;
        String difference = Looks.difference(got, want);
        if (difference != null) {
            wrong.add(what + ": " + difference);
        }
    }

    boolean isPassed() {
        return asked > 0 && wrong.isEmpty();
    }

    List<String> wrong() {
        return wrong;
    }
}
