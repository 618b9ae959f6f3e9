import java.util.stream.IntStream;

/** States that several tests begin in, and arguments that lie outside a range. */
final class Scenes {
    /** Numbers of processes that do not live in the busy scene: 2 is dead, 5 to 7 were not made. */
    static final int[] NOT_LIVING = IntStream.concat(IntStream.of(2, 5, 7), IntStream.of(outside(0, 7))).toArray();
    static final int[] NO_REGISTER = outside(0, 3);
    static final int[] NO_FIELD = outside(0, 2);
    static final Scene BUSY = Scenes::busy;
    static final Scene EIGHT = Scenes::eight;

    private Scenes() {
    }

    /** The first values outside at both ends, the last ints, and some that a shift or a narrower type would take for one inside. */
    static int[] outside(int least, int most) {
        IntStream ends = IntStream.of(Integer.MIN_VALUE, least - 1, most + 1, Integer.MAX_VALUE);
        IntStream likeInside = IntStream.of(least, least + 1, most)
                .flatMap(inside -> IntStream.of(-65536, -256, -32, 32, 64, 256, 65536).map(far -> inside + far));
        return IntStream.concat(ends, likeInside).filter(value -> value < least || value > most).distinct().toArray();
    }

    /**
     * A bit of everything. Process 1, in user mode, holds in register 0 a kernel object (tag 80), in 1 the head
     * of frozen heap 9 (91), in 2 an own object (10) and in 3 an object of heap 10, which it builds (100). Process
     * 2 is dead: its node pays for heap 9, for an object of which the kernel has an exit item. Process 3 is in
     * kernel mode, process 4 is DOOMED. There is garbage in heaps 0, 1, 3 and 8.
     */
    private static ProcessHeaps busy() {
        ProcessHeaps x = new ProcessHeaps(24);
        x.spawn(0, 12, false);
        x.spawn(0, 3, false);
        x.spawn(1, 4, true);
        x.spawn(0, 2, false);
        buildHeapNine(x);
        x.lookup(2, 9, 0);
        x.make(2, 1, 2, 20);
        x.store(2, 1, 0, 0);
        x.kill(2);
        fillHeapZero(x);
        fillRegistersOfOne(x);
        x.make(3, 0, 2, 30);
        x.make(3, 1, 2, 31);
        x.mode(3, true);
        x.make(3, 1, 2, 32);
        x.store(3, 1, 0, 0);
        x.mode(4, true);
        x.kill(4);
        x.make(4, 0, 1, 40);
        return x;
    }

    /** Two pages; the head, tag 91, names an object with tag 90. */
    private static void buildHeapNine(ProcessHeaps x) {
        x.begin(1);
        x.make(1, 0, 16, 90);
        x.make(1, 1, 4, 91);
        x.store(1, 1, 0, 0);
        x.freeze(1, 1);
    }

    private static void fillHeapZero(ProcessHeaps x) {
        x.make(0, 0, 3, 1);
        x.make(0, 1, 5, 2);
        x.store(0, 0, 1, 1);
        x.make(0, 1, 14, 3);
        x.move(0, 1, -1);
    }

    private static void fillRegistersOfOne(ProcessHeaps x) {
        x.make(1, 3, 7, 11);
        x.make(1, 2, 6, 10);
        x.store(1, 2, 0, 1);
        x.begin(1);
        x.make(1, 3, 9, 100);
        x.mode(1, true);
        x.make(1, 0, 15, 81);
        x.make(1, 0, 5, 80);
        x.store(1, 0, 2, 2);
        x.store(1, 2, 1, 0);
        x.mode(1, false);
    }

    /** All eight processes live, each with a soft limit of 24, and each holds an own object in register 0. */
    private static ProcessHeaps eight() {
        ProcessHeaps x = new ProcessHeaps(24);
        for (int p = 0; p < 8; p++) {
            if (p > 0) {
                x.spawn(0, 24, false);
            }
            x.make(p, 0, 2, 10 + p);
        }
        return x;
    }

    /** Process 1 shares heap 9, of so many pages, and its register 0 holds the head, tag 90. */
    static Scene withFrozen(int store, int pages) {
        return () -> {
            ProcessHeaps x = new ProcessHeaps(store);
            x.spawn(0, 24, false);
            freezeOne(x, 1, pages);
            return x;
        };
    }

    /** Process p builds and freezes a heap of so many pages; its register 0 holds the head, tag 90. */
    static void freezeOne(ProcessHeaps x, int p, int pages) {
        x.begin(p);
        for (int i = 0; i < pages; i++) {
            x.make(p, 0, 16, 90);
        }
        x.freeze(p, 0);
    }

    /** Process p makes so many objects in a chain, the last one held by register 0; register 1 is emptied. */
    static void makeChain(ProcessHeaps x, int p, int count, int size) {
        for (int i = 0; i < count; i++) {
            x.make(p, 1, size, i);
            x.store(p, 1, 0, 0);
            x.move(p, 0, 1);
        }
        x.move(p, 1, -1);
    }

    /** Process p makes so many objects that nothing holds; register 3 is emptied. */
    static void makeGarbage(ProcessHeaps x, int p, int count, int size) {
        for (int i = 0; i < count; i++) {
            x.make(p, 3, size, i);
        }
        x.move(p, 3, -1);
    }
}
