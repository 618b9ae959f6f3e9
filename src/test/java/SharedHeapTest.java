/** Promises 9 to 11 and 19: begin, freeze, lookup, shares. */
public final class SharedHeapTest {
    private static final int BAD = ProcessHeaps.BAD;
    private static final int FULL = ProcessHeaps.FULL;
    private static final int LIMIT = ProcessHeaps.LIMIT;
    private static final Check CHECK = new Check();

    private SharedHeapTest() {
    }

    /** Process 1 shares heap 9 of so many pages; its register 0 holds the head, tag 90. */
    private static ProcessHeaps withFrozen(int store, int pages) {
        ProcessHeaps x = new ProcessHeaps(store);
        x.spawn(0, 24, false);
        x.begin(1);
        for (int i = 0; i < pages; i++) {
            x.make(1, 0, 16, 90);
        }
        x.freeze(1, 0);
        return x;
    }

    private static void begin() {
        ProcessHeaps x = new ProcessHeaps(8);
        x.spawn(0, 4, false);
        x.spawn(0, 4, false);
        CHECK.due("9: process -1", x.begin(-1), BAD);
        CHECK.due("9: process 8", x.begin(8), BAD);
        CHECK.due("9: not made", x.begin(3), BAD);
        CHECK.due("9: the first", x.begin(1), 9);
        CHECK.due("9: it is building one", x.begin(1), BAD);
        CHECK.due("9: another process", x.begin(0), 10);
        x.kill(1);
        CHECK.due("9: dead", x.begin(1), BAD);
        x.mode(2, true);
        CHECK.due("9: in kernel mode", x.begin(2), 11);
        x.mode(2, false);
        x.make(2, 0, 1, 1);
        CHECK.due("10: frozen", x.freeze(2, 0), 11);
        CHECK.due("9: again after a freeze", x.begin(2), 12);
        x.make(2, 0, 1, 1);
        x.freeze(2, 0);
        CHECK.due("9: a fifth", x.begin(2), FULL);
        CHECK.due("9: BAD stands before FULL", x.begin(0), BAD);
    }

    private static void buildingTakesObjects() {
        ProcessHeaps x = new ProcessHeaps(8);
        x.spawn(0, 2, false);
        x.make(1, 3, 16, 1);
        x.begin(1);
        CHECK.due("5: in the heap that is built", x.make(1, 0, 10, 1), 0);
        CHECK.due("20: it is there", x.where(1, 0), 9);
        CHECK.due("17: the node of the builder pays", x.use(1), 2);
        x.move(1, 0, -1);
        CHECK.due("5: there is no room", x.make(1, 0, 16, 2), LIMIT);
        CHECK.due("5: the heap that is built is not collected", x.objects(9), 1);
        x.move(1, 3, -1);
        CHECK.due("5: the own heap is collected for it", x.make(1, 0, 16, 2), 0);
        CHECK.due("20: it is there", x.where(1, 0), 9);
        CHECK.due("15: nothing is left in the own heap", x.objects(1), 0);
        CHECK.due("12: a heap that is built", x.collect(9), BAD);
        CHECK.due("19: it is not shared yet", x.shares(1, 9), false);
        CHECK.due("11: it cannot be looked up yet", x.lookup(1, 9, 0), BAD);
    }

    private static void freeze() {
        ProcessHeaps x = new ProcessHeaps(8);
        x.spawn(0, 4, false);
        x.make(1, 0, 1, 10);
        CHECK.due("10: it builds none", x.freeze(1, 0), BAD);
        x.begin(1);
        x.make(1, 1, 1, 11);
        CHECK.due("10: process -1", x.freeze(-1, 1), BAD);
        CHECK.due("10: process 8", x.freeze(8, 1), BAD);
        CHECK.due("10: register -1", x.freeze(1, -1), BAD);
        CHECK.due("10: register 4", x.freeze(1, 4), BAD);
        CHECK.due("10: an empty register", x.freeze(1, 2), BAD);
        CHECK.due("10: an own object", x.freeze(1, 0), BAD);
        CHECK.due("10: another process", x.freeze(0, 1), BAD);
        x.make(1, 2, 16, 12);
        CHECK.due("17: one own page and two that are built", x.use(1), 3);
        CHECK.due("10: frozen", x.freeze(1, 2), 9);
        CHECK.due("17: as much as before", x.use(1), 3);
        CHECK.due("19: the builder shares it", x.shares(1, 9), true);
        CHECK.due("10: it builds none any more", x.freeze(1, 2), BAD);
        CHECK.due("12: a frozen heap", x.collect(9), BAD);
        CHECK.due("5: the next one is of the own heap", x.make(1, 3, 1, 13), 0);
        CHECK.due("20: it is there", x.where(1, 3), 1);
        CHECK.due("11: lookup", x.lookup(1, 9, 3), 0);
        CHECK.due("11: the head", x.tag(1, 3), 12);
        x.begin(1);
        CHECK.due("10: an object of a heap frozen before", x.freeze(1, 3), BAD);
        x.kill(1);
        CHECK.due("10: dead", x.freeze(1, 1), BAD);
    }

    private static void lookupWrongInputs() {
        ProcessHeaps x = withFrozen(8, 1);
        x.spawn(0, 4, false);
        x.kill(2);
        CHECK.due("11: process -1", x.lookup(-1, 9, 0), BAD);
        CHECK.due("11: process 8", x.lookup(8, 9, 0), BAD);
        CHECK.due("11: not made", x.lookup(3, 9, 0), BAD);
        CHECK.due("11: dead", x.lookup(2, 9, 0), BAD);
        CHECK.due("11: register -1", x.lookup(0, 9, -1), BAD);
        CHECK.due("11: register 4", x.lookup(0, 9, 4), BAD);
        int[] heaps = {Integer.MIN_VALUE, -1, 0, 1, 8, 10, 12, 13, 41, Integer.MAX_VALUE};
        for (int h : heaps) {
            CHECK.due("11: heap " + h, x.lookup(0, h, 0), BAD);
            CHECK.due("19: heap " + h, x.shares(1, h), false);
        }
        CHECK.due("19: process -1", x.shares(-1, 9), false);
        CHECK.due("19: process 8", x.shares(8, 9), false);
        CHECK.due("19: not made", x.shares(3, 9), false);
        CHECK.due("19: dead", x.shares(2, 9), false);
        CHECK.due("19: process 0 did not look it up", x.shares(0, 9), false);
    }

    private static void lookupIsPaidInFull() {
        ProcessHeaps x = withFrozen(12, 3);
        x.spawn(0, 2, false);
        x.spawn(0, 3, false);
        x.spawn(3, 24, false);
        CHECK.due("11: a limit of 2 does not do for 3 pages", x.lookup(2, 9, 1), LIMIT);
        CHECK.due("19: it does not share it", x.shares(2, 9), false);
        CHECK.due("20: the register is as it was", x.where(2, 1), ProcessHeaps.EMPTY);
        CHECK.due("11: through the limit of the parent", x.lookup(4, 9, 1), 0);
        CHECK.due("17: the parent is charged", x.use(3), 3);
        CHECK.due("11: the parent cannot pay it once more", x.lookup(3, 9, 0), LIMIT);
        CHECK.due("11: whoever shares it pays no more", x.lookup(4, 9, 3), 0);
        CHECK.due("17: as before", x.use(4), 3);
        CHECK.due("11: the root pays it a third time", x.lookup(0, 9, 0), 0);
        CHECK.due("17: three times 3 pages", x.use(0), 9);
        CHECK.due("14: which are 3 pages", x.pages(9), 3);
    }

    private static void lookupCollectsForRoom() {
        ProcessHeaps x = withFrozen(12, 2);
        x.spawn(0, 3, true);
        x.make(2, 0, 16, 1);
        x.make(2, 1, 16, 2);
        x.store(2, 1, 0, 1);
        x.store(2, 1, 1, 0);
        CHECK.due("11: both are held", x.lookup(2, 9, 0), LIMIT);
        CHECK.due("11: also the one in the register", x.tag(2, 0), 1);
        x.make(2, 3, 16, 3);
        x.move(2, 3, -1);
        CHECK.due("11: one is freed, it is not enough", x.lookup(2, 9, 0), LIMIT);
        CHECK.due("11: LIMIT leaves what the collection did", x.objects(2), 2);
        x.store(2, 1, 1, 3);
        x.move(2, 0, -1);
        x.mode(2, true);
        CHECK.due("11: the own heap is collected, in kernel mode too", x.lookup(2, 9, 0), 0);
        CHECK.due("15: one object is left", x.objects(2), 1);
        CHECK.due("17: 1 own page, 2 shared", x.use(2), 3);
    }

    private static void sharingEnds() {
        ProcessHeaps x = withFrozen(12, 2);
        x.spawn(0, 6, false);
        x.lookup(2, 9, 0);
        x.make(2, 1, 1, 5);
        x.store(2, 1, 0, 0);
        x.move(2, 0, -1);
        CHECK.due("19: without a register, before a collection", x.shares(2, 9), true);
        x.collect(2);
        CHECK.due("19: an exit item keeps it", x.shares(2, 9), true);
        x.store(2, 1, 0, 3);
        CHECK.due("16: the exit item stays when the field is changed", x.items(2), 1);
        x.load(2, 0, 1, 0);
        CHECK.due("19: and so does the sharing", x.shares(2, 9), true);
        x.collect(8);
        CHECK.due("19: a collection of the kernel heap ends none", x.shares(2, 9), true);
        x.collect(2);
        CHECK.due("16: a collection takes the exit item", x.items(2), 0);
        CHECK.due("19: and ends the sharing", x.shares(2, 9), false);
        CHECK.due("17: and the payment", x.use(2), 1);
        x.lookup(2, 9, 3);
        x.collect(2);
        CHECK.due("19: a register keeps it", x.shares(2, 9), true);
        x.kill(2);
        CHECK.due("19: death ends it", x.shares(2, 9), false);
        CHECK.due("17: a register that was held does not go on paying", x.use(2), 1);
        CHECK.due("19: the other one shares it still", x.shares(1, 9), true);
    }

    private static void goneWithTheLastSharer() {
        ProcessHeaps x = withFrozen(12, 2);
        x.lookup(0, 9, 0);
        x.move(1, 0, -1);
        CHECK.due("12: objects of a frozen heap are not counted", x.collect(1), 0);
        CHECK.due("14: process 0 keeps it", x.pages(9), 2);
        CHECK.due("17: node 1 pays no more, as builder neither", x.use(1), 0);
        x.move(0, 0, -1);
        CHECK.due("12: nor of one that is gone", x.collect(0), 0);
        CHECK.due("14: it is gone", x.pages(9), 0);
        CHECK.due("15: with its objects", x.objects(9), 0);
        CHECK.due("17: nobody pays", x.use(0), 0);
        CHECK.due("11: it cannot be looked up", x.lookup(0, 9, 0), BAD);
        CHECK.due("9: its number is not used again", x.begin(0), 10);
    }

    private static void goneWithDeath() {
        ProcessHeaps x = withFrozen(12, 2);
        x.make(1, 1, 1, 1);
        CHECK.due("3: it dies without an exit item", x.kill(1), true);
        CHECK.due("14: the frozen heap is gone", x.pages(9), 0);
        CHECK.due("17: the node pays for its own page", x.use(1), 1);
        x.collect(8);
        CHECK.due("17: it ceases to exist", x.use(1), BAD);
        CHECK.due("17: nothing is left", x.use(0), 0);
    }

    private static void keptByTheKernel() {
        ProcessHeaps x = withFrozen(12, 2);
        x.make(1, 1, 1, 1);
        x.store(1, 1, 0, 0);
        x.store(1, 1, 0, 3);
        x.kill(1);
        CHECK.due("16: the exit item is the kernel's, though the field was changed", x.items(8), 1);
        CHECK.due("14: it keeps the frozen heap", x.pages(9), 2);
        CHECK.due("17: the dead one's node pays for it", x.use(1), 3);
        CHECK.due("11: it can be looked up", x.lookup(0, 9, 0), 0);
        CHECK.due("12: one is freed", x.collect(8), 1);
        CHECK.due("16: the exit item is lost", x.items(8), 0);
        CHECK.due("17: the dead one's node has ceased", x.use(1), BAD);
        CHECK.due("14: process 0 keeps the frozen heap", x.pages(9), 2);
        x.move(0, 0, -1);
        x.collect(0);
        CHECK.due("14: it is gone", x.pages(9), 0);
    }

    public static void main(String[] args) {
        begin();
        buildingTakesObjects();
        freeze();
        lookupWrongInputs();
        lookupIsPaidInFull();
        lookupCollectsForRoom();
        sharingEnds();
        goneWithTheLastSharer();
        goneWithDeath();
        keptByTheKernel();
        CHECK.finish();
    }
}
