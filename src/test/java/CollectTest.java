/** Promises 12 and 16: collect and items. */
public final class CollectTest {
    private static final int BAD = ProcessHeaps.BAD;
    private static final int KERNEL = 8;

    private CollectTest() {
    }

    @Sentence(promise = 12, words = "BAD if h is neither the number of a living process nor 8.")
    static void collectIsBad(Check check) {
        for (int h : Scenes.outside(0, 12)) {
            check.refused("collect(" + h + ")", Scenes.BUSY, x -> x.collect(h), BAD);
        }
        for (int h : new int[] {2, 5, 6, 7, 9, 10, 11, 12}) {
            check.refused("collect(" + h + ")", Scenes.BUSY, x -> x.collect(h), BAD);
        }
        for (int h = 0; h <= KERNEL; h++) {
            check.due("collect(" + h + ") of eight", Scenes.EIGHT.make().collect(h), 0);
        }
        check.due("collect(9) of eight", Scenes.EIGHT.make().collect(9), BAD);
    }

    @Sentence(promise = 12, words = "A collection of heap h: how many of its objects were freed")
    static void collectAnswersHowManyWereFreed(Check check) {
        int[] heaps = {0, 1, 3, 4, KERNEL};
        int[] freed = {1, 1, 1, 0, 2};
        for (int i = 0; i < heaps.length; i++) {
            ProcessHeaps x = Scenes.BUSY.make();
            int before = x.objects(heaps[i]);
            check.due("collect(" + heaps[i] + ")", x.collect(heaps[i]), freed[i]);
            check.due("objects(" + heaps[i] + ")", x.objects(heaps[i]), before - freed[i]);
            check.due("collect(" + heaps[i] + ") once more", x.collect(heaps[i]), 0);
        }
    }

    @Sentence(promise = 12,
            words = "The objects of h that cannot be reached from them through fields of objects of h are freed; they exist no more.")
    static void otherHeapsAreNotCollected(Check check) {
        for (int h : new int[] {0, 1, 3, 4, KERNEL}) {
            ProcessHeaps x = Scenes.BUSY.make();
            x.collect(h);
            for (int other = 0; other < 13; other++) {
                if (other != h) {
                    int was = Scenes.BUSY.make().objects(other);
                    check.due("objects(" + other + ") after collect(" + h + ")", x.objects(other), was);
                }
            }
        }
    }

    @Sentence(promise = 12, words = "(those of frozen heaps that are GONE are not counted)")
    static void collectDoesNotCountThoseThatAreGone(Check check) {
        ProcessHeaps x = Scenes.withFrozen(8, 3).make();
        x.move(1, 0, -1);
        Scenes.makeGarbage(x, 1, 2, 1);
        check.due("collect(1)", x.collect(1), 2);
        check.due("heap 9 is gone", x.objects(9), 0);
        ProcessHeaps y = Scenes.withFrozen(8, 3).make();
        y.make(1, 1, 1, 1);
        y.store(1, 1, 0, 0);
        y.kill(1);
        check.due("collect(8)", y.collect(KERNEL), 1);
        check.due("heap 9 is gone then, too", y.objects(9), 0);
    }

    @Sentence(promise = 12, words = "the ROOTS are the objects of h that are held by a register of any living process")
    static void registersHold(Check check) {
        for (int p = 0; p < 8; p++) {
            for (int r = 0; r < 4; r++) {
                ProcessHeaps x = Scenes.EIGHT.make();
                x.move(p, 0, -1);
                x.make(p, r, 1, 1);
                check.due("one in register " + r + ", one in none", x.collect(p), 1);
                check.due("objects(" + p + ")", x.objects(p), 1);
                x.mode(p, true);
                x.make(p, r, 1, 1);
                check.due("a kernel object in register " + r + " of " + p, x.collect(KERNEL), 0);
                x.move(p, r, -1);
                check.due("the kernel object in none", x.collect(KERNEL), 1);
            }
        }
    }

    @Sentence(promise = 12, words = "or for which another heap has an exit item.")
    static void exitItemsOfOwnHeapsHoldKernelObjects(Check check) {
        ProcessHeaps x = withItem();
        x.move(1, 1, -1);
        check.due("the exit item of heap 1 holds the kernel object", x.collect(KERNEL), 0);
        x.move(1, 0, -1);
        check.due("also while only garbage names it", x.collect(KERNEL), 0);
        check.due("the garbage is freed", x.collect(1), 1);
        check.due("then the kernel object is", x.collect(KERNEL), 1);
    }

    @Sentence(promise = 12, words = "or for which another heap has an exit item.")
    static void exitItemsOfTheKernelHoldOwnObjects(Check check) {
        ProcessHeaps x = withItem();
        x.store(1, 0, 0, 3);
        x.store(1, 1, 2, 0);
        x.move(1, 0, -1);
        check.due("the exit item of the kernel holds the own object", x.collect(1), 0);
        x.store(1, 1, 2, 3);
        check.due("also when the field is changed", x.collect(1), 0);
        check.due("no kernel object is freed", x.collect(KERNEL), 0);
        check.due("then the own object is", x.collect(1), 1);
    }

    @Sentence(promise = 12, words = "The objects of h that cannot be reached from them through fields of objects of h are freed")
    static void chainsAreReached(Check check) {
        for (int f = 0; f < 3; f++) {
            ProcessHeaps x = new ProcessHeaps(8);
            for (int i = 0; i < 60; i++) {
                x.make(0, 1, 1, i);
                x.store(0, 1, f, 0);
                x.move(0, 0, 1);
            }
            x.move(0, 1, -1);
            check.due("a chain of 60 through field " + f, x.collect(0), 0);
            x.store(0, 0, f, 1);
            check.due("a chain that is cut", x.collect(0), 59);
        }
    }

    @Sentence(promise = 12, words = "The objects of h that cannot be reached from them through fields of objects of h are freed")
    static void ringsAreFreed(Check check) {
        ProcessHeaps x = new ProcessHeaps(8);
        x.make(0, 2, 1, 0);
        x.move(0, 0, 2);
        for (int i = 1; i < 50; i++) {
            x.make(0, 1, 1, i);
            x.store(0, 0, i % 3, 1);
            x.move(0, 0, 1);
        }
        x.store(0, 0, 0, 2);
        x.move(0, 2, -1);
        x.move(0, 1, -1);
        check.due("a ring of 50, held by one register", x.collect(0), 0);
        x.make(0, 1, 1, 99);
        x.store(0, 1, 0, 0);
        x.move(0, 0, -1);
        check.due("a ring that an object names", x.collect(0), 0);
        x.store(0, 1, 0, 0);
        check.due("a ring that nothing names", x.collect(0), 50);
        check.due("the one that named it is there", x.objects(0), 1);
    }

    @Sentence(promise = 12, words = "cannot be reached from them through fields of objects of h are freed")
    static void objectsNamedManyTimesOver(Check check) {
        ProcessHeaps x = new ProcessHeaps(8);
        x.make(0, 0, 1, 0);
        x.move(0, 1, 0);
        for (int i = 1; i < 60; i++) {
            x.make(0, 2, 1, i);
            for (int f = 0; f < 3; f++) {
                x.store(0, 1, f, 2);
            }
            x.move(0, 1, 2);
        }
        x.move(0, 1, -1);
        x.move(0, 2, -1);
        check.due("60 objects, each named three times by the one before", x.collect(0), 0);
        x.move(0, 0, -1);
        check.due("all are freed", x.collect(0), 60);
    }

    @Sentence(promise = {12, 16}, words = "through fields of objects of h")
    static void ringThroughTwoHeapsIsKept(Check check) {
        ProcessHeaps x = withItem();
        x.store(1, 1, 0, 0);
        x.move(1, 0, -1);
        x.move(1, 1, -1);
        for (int i = 0; i < 3; i++) {
            check.due("the exit item of the kernel keeps the own object", x.collect(1), 0);
            check.due("the exit item of heap 1 keeps the kernel object", x.collect(KERNEL), 0);
        }
    }

    /** Process 1 in kernel mode: register 0 holds an own object that names, in field 0, the kernel object in register 1. */
    private static ProcessHeaps withItem() {
        ProcessHeaps x = new ProcessHeaps(8);
        x.spawn(0, 6, false);
        x.make(1, 0, 4, 10);
        x.mode(1, true);
        x.make(1, 1, 4, 11);
        x.store(1, 0, 0, 1);
        return x;
    }

    @Sentence(promise = 16,
            words = "Heap h has an EXIT ITEM for an object x of another heap from when x is stored in a field of an object of h.")
    static void itemFromTheStoreOn(Check check) {
        ProcessHeaps x = withItem();
        check.due("heap 1 has one", x.items(1), 1);
        check.due("the kernel heap has none", x.items(KERNEL), 0);
        x.store(1, 1, 0, 0);
        check.due("now the kernel heap has one", x.items(KERNEL), 1);
        check.due("heap 1 has one as before", x.items(1), 1);
        check.due("heap 0 has none", x.items(0), 0);
    }

    @Sentence(promise = 16, words = "an EXIT ITEM for an object x of another heap")
    static void noItemWithinAHeap(Check check) {
        ProcessHeaps x = Scenes.EIGHT.make();
        x.store(7, 0, 0, 0);
        check.due("of an own heap", x.items(7), 0);
        x.mode(7, true);
        x.make(7, 1, 1, 1);
        x.store(7, 1, 0, 1);
        check.due("of the kernel heap", x.items(KERNEL), 0);
        x.mode(7, false);
        x.begin(7);
        x.make(7, 2, 1, 1);
        x.store(7, 2, 0, 2);
        check.due("of a heap that is built", x.items(9), 0);
        x.freeze(7, 2);
        check.due("of a frozen heap", x.items(9), 0);
        x.store(7, 0, 1, 3);
        check.due("of an empty field", x.items(7), 0);
    }

    @Sentence(promise = 16, words = "The number of exit items of heap h")
    static void itemsAreCountedByObject(Check check) {
        ProcessHeaps x = withItem();
        x.store(1, 0, 1, 1);
        check.due("two fields name one object", x.items(1), 1);
        x.make(1, 2, 1, 12);
        x.store(1, 0, 1, 2);
        check.due("two objects", x.items(1), 2);
        Scenes.freezeOne(x, 0, 1);
        x.lookup(1, 9, 3);
        x.store(1, 0, 2, 3);
        check.due("one of a frozen heap too", x.items(1), 3);
        int[] items = {0, 2, 0, 0, 0, 0, 0, 0, 3, 0, 0, 0, 0};
        for (int h = 0; h < items.length; h++) {
            check.due("items(" + h + ")", Scenes.BUSY.make().items(h), items[h]);
        }
    }

    @Sentence(promise = 16, words = "The number of exit items of heap h")
    static void itemsOfEachHeap(Check check) {
        ProcessHeaps x = Scenes.EIGHT.make();
        for (int p = 0; p < 8; p++) {
            x.mode(p, true);
            x.make(p, 1, 1, 1);
            x.store(p, 0, 0, 1);
            check.due("items(" + p + ")", x.items(p), 1);
        }
        for (int p = 0; p < 8; p++) {
            x.store(p, 1, 0, 0);
            check.due("items(8)", x.items(KERNEL), p + 1);
        }
    }

    @Sentence(promise = 16, words = "not before, even if that field is changed.")
    static void itemStaysWhenTheFieldIsChanged(Check check) {
        ProcessHeaps x = withItem();
        x.store(1, 0, 0, 0);
        check.due("the field names another object", x.items(1), 1);
        x.store(1, 0, 0, 3);
        check.due("the field is empty", x.items(1), 1);
        x.move(1, 0, -1);
        check.due("the object is garbage", x.items(1), 1);
        x.collect(KERNEL);
        x.collect(0);
        check.due("other heaps are collected", x.items(1), 1);
        x.collect(1);
        check.due("its own is collected", x.items(1), 0);
    }

    @Sentence(promise = 16, words = "It loses it when h is collected and afterwards no object of h has x in a field")
    static void itemIsLostWithItsLastField(Check check) {
        for (int f = 0; f < 3; f++) {
            ProcessHeaps x = withItem();
            x.store(1, 0, 0, 3);
            x.store(1, 0, f, 1);
            x.collect(1);
            check.due("field " + f + " names it", x.items(1), 1);
            x.store(1, 0, f, 3);
            x.collect(1);
            check.due("no field names it", x.items(1), 0);
        }
    }

    @Sentence(promise = 16, words = "It loses it when h is collected and afterwards no object of h has x in a field")
    static void itemStaysWhileAnotherObjectNamesIt(Check check) {
        ProcessHeaps x = withItem();
        x.mode(1, false);
        x.make(1, 2, 1, 12);
        x.store(1, 2, 1, 1);
        x.move(1, 0, -1);
        check.due("one of two is freed", x.collect(1), 1);
        check.due("the other one names it", x.items(1), 1);
        x.move(1, 2, -1);
        check.due("the other one is freed", x.collect(1), 1);
        check.due("no object of heap 1 names it, though a register holds it", x.items(1), 0);
    }

    @Sentence(promise = 16, words = "It loses it when h is collected and afterwards no object of h has x in a field")
    static void itemsOfTheKernelAreLost(Check check) {
        ProcessHeaps x = withItem();
        x.store(1, 1, 0, 0);
        x.store(1, 1, 0, 3);
        x.collect(1);
        check.due("heap 1 is collected", x.items(KERNEL), 1);
        x.collect(KERNEL);
        check.due("the kernel heap is collected", x.items(KERNEL), 0);
        check.due("that of heap 1 is as it was", x.items(1), 1);
    }

    @Sentence(promise = 16, words = "0 if there is no such heap.")
    static void itemsOfNoSuchHeap(Check check) {
        for (int h : Scenes.outside(0, 12)) {
            check.due("items(" + h + ")", Scenes.BUSY.make().items(h), 0);
        }
        for (int far : new int[] {-32, 32, 64, 256, 65536}) {
            check.due("items of 8 and " + far, Scenes.BUSY.make().items(KERNEL + far), 0);
        }
        for (int h : new int[] {2, 5, 7, 11, 12}) {
            check.due("items(" + h + ") of a dead one, or of one that was not made", Scenes.BUSY.make().items(h), 0);
        }
        check.refused("items(13)", Scenes.BUSY, x -> x.items(13), 0);
    }

    @Sentence(promise = {12, 17},
            words = "for the kernel heap, nodes of dead processes cease to pay for a frozen heap if the kernel heap has no exit item for any object of it.")
    static void deadNodesCeaseToPay(Check check) {
        ProcessHeaps x = Scenes.BUSY.make();
        check.due("node 2 pays for heap 9, 2 pages, and for its own page", x.use(2), 3);
        x.collect(0);
        x.collect(1);
        x.collect(3);
        check.due("no collection of an own heap ends it", x.use(2), 3);
        x.collect(KERNEL);
        check.due("the exit item is lost", x.items(KERNEL), 2);
        check.due("node 2 pays for the page that others use", x.use(2), 1);
        check.due("process 1 shares heap 9 as before", x.shares(1, 9), true);
        check.due("node 1 pays for it as before", x.use(1), 8);
    }

    @Sentence(promise = {12, 19},
            words = "then, for an own heap, the process ceases to share what it does not use, as said; for the kernel heap")
    static void collectionOfTheKernelEndsNoSharing(Check check) {
        ProcessHeaps x = Scenes.withFrozen(8, 1).make();
        x.move(1, 0, -1);
        x.collect(KERNEL);
        check.due("shares(1, 9) after collect(8)", x.shares(1, 9), true);
        x.collect(0);
        check.due("shares(1, 9) after collect(0)", x.shares(1, 9), true);
        x.collect(1);
        check.due("shares(1, 9) after collect(1)", x.shares(1, 9), false);
    }

    @Sentence(promise = {12, 14, 17, 19}, words = "heaps 9 .. 12 are SHARED ones")
    static void collectionsEndTheUseOfEachSharedHeap(Check check) {
        for (int h = 9; h < 13; h++) {
            ProcessHeaps x = withFourFrozen();
            x.lookup(2, h, 0);
            x.make(2, 1, 1, 5);
            x.store(2, 1, 0, 0);
            x.kill(2);
            check.due("use(2) pays for its page and heap " + h, x.use(2), 2);
            check.due("items(8)", x.items(KERNEL), 1);
            x.move(1, h - 9, -1);
            x.collect(1);
            check.due("shares(1, " + h + ")", x.shares(1, h), false);
            check.due("use(1)", x.use(1), 3);
            check.due("pages(" + h + ") while the kernel keeps it", x.pages(h), 1);
            x.lookup(0, h, 0);
            x.collect(KERNEL);
            check.due("use(2) has ceased", x.use(2), BAD);
            check.due("pages(" + h + ") while process 0 shares it", x.pages(h), 1);
            x.move(0, 0, -1);
            x.collect(0);
            check.due("pages(" + h + ") at the end", x.pages(h), 0);
            check.due("use(0)", x.use(0), 3);
        }
    }

    /** Process 1 froze heaps 9 to 12, of a page each, and holds their heads in registers 0 to 3; process 2 is new. */
    private static ProcessHeaps withFourFrozen() {
        ProcessHeaps x = new ProcessHeaps(12);
        x.spawn(0, 12, false);
        x.spawn(0, 12, false);
        for (int r = 0; r < 4; r++) {
            x.begin(1);
            x.make(1, r, 1, 90 + r);
            x.freeze(1, r);
        }
        return x;
    }

    /*
     * "a register of any living process" is asked for the kernel heap: no register but those of process p ever holds
     * an object of own heap p (see FieldTest, at store).
     *
     * "through fields of objects of h" cannot be broken alone: where a way from a root leads through an object of
     * another heap, that heap has an exit item for the object of h to which the way leads back, which is a root then.
     *
     * That the node of a dead process goes on paying for a frozen heap after a collection of the kernel heap has no
     * test: the kernel heap has exit items for frozen objects only from deaths, in the objects that were a dead
     * process's, and since nobody else can reach these, the first collection of the kernel heap frees them all.
     */

    public static void main(String[] args) throws Exception {
        Tests.run(CollectTest.class);
    }
}
