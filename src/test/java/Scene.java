import java.util.function.Consumer;

/** A run of calls on a new object: it can be made again and again, so that one call more or less can be told. */
interface Scene {
    ProcessHeaps make();

    default Scene then(Consumer<ProcessHeaps> calls) {
        return () -> {
            ProcessHeaps x = make();
            calls.accept(x);
            return x;
        };
    }
}
