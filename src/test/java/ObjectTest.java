/** Promises 5, 14, 15, 20 and 21: make, pages, objects, where, tag. */
public final class ObjectTest {
    private static final int BAD = ProcessHeaps.BAD;
    private static final int EMPTY = ProcessHeaps.EMPTY;
    private static final int FULL = ProcessHeaps.FULL;
    private static final int LIMIT = ProcessHeaps.LIMIT;
    private static final int KERNEL = 8;
    private static final int[] TAGS = {Integer.MIN_VALUE, -6, -2, -1, 0, 1, Integer.MAX_VALUE};

    private ObjectTest() {
    }

    @Sentence(promise = 5,
            words = "Process p makes an object of this size with this tag and empty fields, and register r holds it then")
    static void makePutsTheObjectIntoTheRegister(Check check) {
        for (int r = 0; r < 4; r++) {
            ProcessHeaps x = new ProcessHeaps(4);
            check.due("make(0, " + r + ", 1, 5)", x.make(0, r, 1, 5), 0);
            for (int other = 0; other < 4; other++) {
                check.due("where(0, " + other + ")", x.where(0, other), other == r ? 0 : EMPTY);
                check.due("tag(0, " + other + ")", x.tag(0, other), other == r ? 5 : 0);
            }
            check.due("make once more", x.make(0, r, 1, 6), 0);
            check.due("the register holds the new one", x.tag(0, r), 6);
            check.due("both exist", x.objects(0), 2);
        }
        for (int p = 0; p < 8; p++) {
            ProcessHeaps x = Scenes.EIGHT.make();
            check.due("make by process " + p, x.make(p, 3, 1, 7), 0);
            check.due("it is in its own heap", x.where(p, 3), p);
        }
    }

    @Sentence(promise = 5, words = "an object of this size with this tag and empty fields")
    static void newObjectHasEmptyFields(Check check) {
        ProcessHeaps x = new ProcessHeaps(4);
        x.make(0, 0, 1, 1);
        for (int f = 0; f < 3; f++) {
            x.move(0, 1, 0);
            check.due("load of field " + f, x.load(0, 1, 0, f), 0);
            check.due("field " + f, x.where(0, 1), EMPTY);
        }
        check.due("no exit item", x.items(0), 0);
    }

    @Sentence(promise = {5, 21}, words = "a tag (an int)")
    static void anyIntIsTag(Check check) {
        for (int tag : TAGS) {
            ProcessHeaps x = new ProcessHeaps(4);
            check.due("make with tag " + tag, x.make(0, 2, 1, tag), 0);
            check.due("tag(0, 2)", x.tag(0, 2), tag);
        }
    }

    @Sentence(promise = 5, words = "BAD if p is not a living process")
    static void makeIsBadUnlessTheProcessLives(Check check) {
        for (int p : Scenes.NOT_LIVING) {
            check.refused("make(" + p + ", 0, 1, 1)", Scenes.BUSY, x -> x.make(p, 0, 1, 1), BAD);
        }
        for (int p : new int[] {0, 1, 3, 4}) {
            check.due("make(" + p + ", 0, 1, 1)", Scenes.BUSY.make().make(p, 0, 1, 1), 0);
        }
    }

    @Sentence(promise = 5, words = "BAD if p is not a living process, r is not 0 .. 3, or size is not 1 .. 16.")
    static void makeIsBadUnlessTheRegisterIsZeroToThree(Check check) {
        for (int r : Scenes.NO_REGISTER) {
            check.refused("make(1, " + r + ", 1, 1)", Scenes.BUSY, x -> x.make(1, r, 1, 1), BAD);
        }
    }

    @Sentence(promise = 5, words = "BAD if p is not a living process, r is not 0 .. 3, or size is not 1 .. 16.")
    static void makeIsBadUnlessTheSizeIsOneToSixteen(Check check) {
        for (int size : Scenes.outside(1, 16)) {
            for (int p : new int[] {0, 1, 3}) {
                check.refused("make(" + p + ", 0, " + size + ", 1)", Scenes.BUSY, x -> x.make(p, 0, size, 1), BAD);
            }
        }
        for (int size = 1; size <= 16; size++) {
            ProcessHeaps x = new ProcessHeaps(4);
            check.due("make(0, 0, " + size + ", 1)", x.make(0, 0, size, 1), 0);
            x.make(0, 1, size == 16 ? 1 : 16 - size, 2);
            check.due("pages when " + size + " and the rest to 16 are made", x.pages(0), size == 16 ? 2 : 1);
            x.make(0, 2, 16, 3);
            check.due("the first page is full then", x.pages(0), size == 16 ? 3 : 2);
        }
    }

    /** 60 objects: heap 0 has 20, held; heap 1 has 10, all garbage; the kernel, heap 9 (frozen) and heap 10 (built) have 10 each. */
    private static ProcessHeaps withSixty() {
        ProcessHeaps x = new ProcessHeaps(24);
        x.spawn(0, 24, false);
        Scenes.makeChain(x, 0, 20, 1);
        Scenes.makeGarbage(x, 1, 1, 1);
        x.begin(1);
        makeInRegisterTwo(x, 1, 10);
        x.freeze(1, 2);
        makeInRegisterTwo(x, 1, 9);
        x.begin(1);
        makeInRegisterTwo(x, 1, 10);
        x.mode(1, true);
        makeInRegisterTwo(x, 1, 10);
        x.mode(1, false);
        return x;
    }

    private static void makeInRegisterTwo(ProcessHeaps x, int p, int count) {
        for (int i = 0; i < count; i++) {
            x.make(p, 2, 1, i);
        }
    }

    @Sentence(promise = 5, words = "FULL if 60 objects exist (no collection is made).")
    static void makeIsFullAtSixty(Check check) {
        Scene sixty = ObjectTest::withSixty;
        check.refused("in the own heap", sixty, x -> x.make(0, 0, 1, 1), FULL);
        check.refused("in the heap that is built", sixty, x -> x.make(1, 3, 1, 1), FULL);
        check.refused("in the kernel heap", sixty.then(x -> x.mode(0, true)), x -> x.make(0, 3, 1, 1), FULL);
        check.refused("of a full page", sixty, x -> x.make(0, 3, 16, 1), FULL);
    }

    @Sentence(promise = 5, words = "At most 60 objects exist at one time.")
    static void sixtyObjectsExistAtOneTime(Check check) {
        for (int size = 1; size <= 4; size += 3) {
            ProcessHeaps x = new ProcessHeaps(24);
            for (int i = 1; i <= 60; i++) {
                check.due("object " + i + " of size " + size, x.make(0, 0, size, i), 0);
            }
            check.due("object 61 of size " + size, x.make(0, 0, size, 61), FULL);
            check.due("objects(0)", x.objects(0), 60);
            check.due("59 of them are freed", x.collect(0), 59);
            check.due("then there is room", x.make(0, 0, size, 62), 0);
        }
    }

    @Sentence(promise = 5, words = "At most 60 objects exist at one time.")
    static void objectsThatExistNoMoreAreNotCounted(Check check) {
        ProcessHeaps x = withSixty();
        check.due("sixty exist", x.make(0, 1, 1, 1), FULL);
        x.move(1, 2, -1);
        check.due("a collection frees the own ones and ends heap 9", x.collect(1), 10);
        check.due("heap 9 is gone", x.objects(9), 0);
        for (int i = 0; i < 20; i++) {
            check.due("one more", x.make(0, 1, 1, i), 0);
        }
        check.due("sixty exist again", x.make(0, 1, 1, 1), FULL);
        x.kill(1);
        check.due("a death frees none", x.make(0, 1, 1, 1), FULL);
        check.due("a collection of the kernel heap frees those of the dead one", x.collect(KERNEL), 20);
        check.due("then there is room", x.make(0, 1, 1, 1), 0);
    }

    /** Process 1 has a limit of 2: one page is full and held, the other has 12 cells that are held and 4 of garbage. */
    private static ProcessHeaps withLittleGarbage() {
        ProcessHeaps x = new ProcessHeaps(8);
        x.spawn(0, 2, false);
        x.make(1, 0, 16, 1);
        x.make(1, 3, 4, 2);
        x.make(1, 1, 12, 3);
        x.move(1, 3, -1);
        addGarbageOfOthers(x);
        return x;
    }

    private static void addGarbageOfOthers(ProcessHeaps x) {
        Scenes.makeGarbage(x, 0, 1, 2);
        x.mode(0, true);
        Scenes.makeGarbage(x, 0, 1, 2);
        x.mode(0, false);
    }

    @Sentence(promise = 5, words = "LIMIT if the new page could not be paid for.")
    static void makeIsLimited(Check check) {
        Scene scene = ObjectTest::withLittleGarbage;
        check.limited("more cells than are freed", scene, x -> x.make(1, 2, 5, 9), 1);
        check.limited("a full page", scene, x -> x.make(1, 2, 16, 9), 1);
        check.limited("into a register that holds something", scene, x -> x.make(1, 0, 5, 9), 1);
        check.due("as many cells as are freed", scene.make().make(1, 2, 4, 9), 0);
        Scene allHeld = scene.then(x -> x.make(1, 2, 4, 9));
        check.limited("one cell", allHeld, x -> x.make(1, 3, 1, 9), 1);
        check.refused("a collection that frees none leaves all as it was", allHeld, x -> x.make(1, 3, 1, 9), LIMIT);
    }

    @Sentence(promise = 5, words = "unless it is the root or HARD, its parent can pay k more.")
    static void makeIsLimitedByTheParent(Check check) {
        Scene scene = () -> {
            ProcessHeaps x = new ProcessHeaps(4);
            x.spawn(0, 24, false);
            x.spawn(1, 24, false);
            Scenes.makeChain(x, 0, 3, 16);
            Scenes.makeChain(x, 2, 1, 16);
            return x;
        };
        check.limited("the root has no page left", scene, x -> x.make(2, 1, 1, 9), 2);
        check.limited("nor for the parent", scene, x -> x.make(1, 1, 1, 9), 1);
    }

    @Sentence(promise = 5, words = "LIMIT if the new page could not be paid for.")
    static void makeInTheBuiltHeapIsLimited(Check check) {
        Scene scene = () -> {
            ProcessHeaps x = withLittleGarbage();
            x.begin(1);
            return x;
        };
        check.limited("no page is left for the built heap", scene, x -> x.make(1, 2, 1, 9), 1);
        ProcessHeaps x = scene.make();
        x.move(1, 0, -1);
        check.due("the own heap gives a page back", x.make(1, 2, 1, 9), 0);
        check.due("the object is of the built heap", x.where(1, 2), 9);
    }

    /** A store of 4, of which a hard limit of 1 is process 1's: the kernel has 3 pages, with 2 cells of garbage. */
    private static ProcessHeaps withFullKernel() {
        ProcessHeaps x = new ProcessHeaps(4);
        x.spawn(0, 1, true);
        x.make(1, 0, 8, 1);
        Scenes.makeGarbage(x, 1, 1, 8);
        x.mode(1, true);
        x.make(1, 1, 16, 2);
        x.make(1, 2, 14, 3);
        Scenes.makeGarbage(x, 1, 1, 2);
        x.make(1, 3, 16, 4);
        return x;
    }

    @Sentence(promise = 5, words = "LIMIT if the new page could not be paid for.")
    static void makeInTheKernelHeapIsLimited(Check check) {
        Scene scene = ObjectTest::withFullKernel;
        check.limited("three cells, two are freed", scene, x -> x.make(1, 0, 3, 9), KERNEL);
        check.limited("of process 0", scene.then(x -> x.mode(0, true)), x -> x.make(0, 0, 16, 9), KERNEL);
        check.due("two cells", scene.make().make(1, 0, 2, 9), 0);
    }

    @Sentence(promise = 5,
            words = "When several of these answers would do, the one that stands first in the method's comment is given.")
    static void makeGivesTheFirstAnswer(Check check) {
        Scene sixty = ObjectTest::withSixty;
        check.refused("BAD of the process before FULL", sixty, x -> x.make(2, 0, 1, 1), BAD);
        check.refused("BAD of the register before FULL", sixty, x -> x.make(0, 4, 1, 1), BAD);
        check.refused("BAD of the size before FULL", sixty, x -> x.make(0, 0, 17, 1), BAD);
        Scene limited = ObjectTest::withLittleGarbage;
        check.refused("BAD of the register before LIMIT: there is no collection", limited, x -> x.make(1, 4, 16, 1), BAD);
        check.refused("BAD of the size before LIMIT: there is no collection", limited, x -> x.make(1, 2, 17, 1), BAD);
        Scene both = () -> {
            ProcessHeaps x = new ProcessHeaps(4);
            makeInRegisterTwo(x, 0, 60);
            return x;
        };
        check.refused("FULL before LIMIT: there is no collection", both, x -> x.make(0, 0, 16, 1), FULL);
    }

    @Sentence(promise = 5, words = "register r holds it then (until then, also during a collection, what it held)")
    static void registerHoldsItsObjectDuringTheCollection(Check check) {
        ProcessHeaps x = new ProcessHeaps(8);
        x.spawn(0, 2, false);
        x.make(1, 0, 16, 1);
        x.make(1, 1, 16, 2);
        check.due("both are held", x.make(1, 1, 16, 3), LIMIT);
        check.due("the register is as it was", x.tag(1, 1), 2);
        x.move(1, 0, -1);
        check.due("one is freed", x.make(1, 1, 16, 4), 0);
        check.due("what the register held is there yet", x.objects(1), 2);
        check.due("the next collection frees it", x.collect(1), 1);
    }

    @Sentence(promise = 5, words = "MAKING an object happens in the kernel heap if the process is in kernel mode")
    static void makeInKernelMode(Check check) {
        ProcessHeaps x = new ProcessHeaps(8);
        x.mode(0, true);
        x.make(0, 0, 1, 1);
        check.due("in kernel mode", x.where(0, 0), KERNEL);
        x.begin(0);
        x.make(0, 0, 1, 1);
        check.due("in kernel mode, while a heap is built", x.where(0, 0), KERNEL);
        check.due("objects(8)", x.objects(KERNEL), 2);
    }

    @Sentence(promise = 5,
            words = "otherwise in the shared heap that it is building, if there is one; otherwise in its own heap.")
    static void makeInUserMode(Check check) {
        ProcessHeaps x = new ProcessHeaps(8);
        x.spawn(0, 8, false);
        x.make(1, 0, 1, 1);
        check.due("in user mode", x.where(1, 0), 1);
        x.begin(1);
        x.make(1, 0, 1, 1);
        check.due("while a heap is built", x.where(1, 0), 9);
        x.make(0, 0, 1, 1);
        check.due("of a process that builds none", x.where(0, 0), 0);
        x.freeze(1, 0);
        x.make(1, 1, 1, 1);
        check.due("after the freeze", x.where(1, 1), 1);
    }

    @Sentence(promise = {5, 14, 15, 20}, words = "HEAPS: heap p, 0 .. 7, is the OWN heap of process p; heap 8 is the KERNEL's")
    static void ownHeapHasTheNumberOfItsProcess(Check check) {
        for (int p = 0; p < 8; p++) {
            ProcessHeaps x = Scenes.EIGHT.make();
            x.make(p, 1, 16, 1);
            for (int h = 0; h < 13; h++) {
                int made = h == p ? 2 : h < 8 ? 1 : 0;
                check.due("pages(" + h + ") when " + p + " made one", x.pages(h), made);
                check.due("objects(" + h + ") when " + p + " made one", x.objects(h), made);
            }
            x.mode(p, true);
            x.make(p, 1, 16, 1);
            check.due("objects(8) when " + p + " made one there", x.objects(KERNEL), 1);
            check.due("objects(" + p + ") then", x.objects(p), 2);
        }
    }

    @Sentence(promise = {15, 20}, words = "An OBJECT lies in one heap")
    static void objectLiesInOneHeap(Check check) {
        ProcessHeaps x = Scenes.BUSY.make();
        int all = 0;
        for (int h = 0; h < 13; h++) {
            all += x.objects(h);
        }
        check.due("as many as were made", all, 15);
        x.freeze(1, 3);
        check.due("a freeze leaves it where it is", x.where(1, 3), 10);
        x.store(1, 2, 2, 3);
        check.due("and so does a store", x.where(1, 3), 10);
    }

    @Sentence(promise = {5, 14}, words = "has room for 16 cells: the sizes of the objects in it are at most 16 in all.")
    static void pageHasSixteenCells(Check check) {
        ProcessHeaps x = new ProcessHeaps(8);
        for (int i = 0; i < 16; i++) {
            x.make(0, 0, 1, i);
            check.due("pages after " + (i + 1) + " cells", x.pages(0), 1);
        }
        x.make(0, 0, 1, 16);
        check.due("pages after 17 cells", x.pages(0), 2);
    }

    @Sentence(promise = {5, 14}, words = "A PAGE belongs to one heap")
    static void pagesOfOtherHeapsAreNotUsed(Check check) {
        ProcessHeaps x = new ProcessHeaps(8);
        x.spawn(0, 8, false);
        x.make(0, 0, 1, 1);
        x.make(1, 0, 1, 1);
        check.due("heap 1 has a page of its own", x.pages(1), 1);
        x.mode(1, true);
        x.make(1, 1, 1, 1);
        check.due("and the kernel heap", x.pages(KERNEL), 1);
        x.mode(1, false);
        x.begin(1);
        x.make(1, 2, 1, 1);
        check.due("and the built heap", x.pages(9), 1);
        x.freeze(1, 2);
        x.begin(1);
        x.make(1, 3, 1, 1);
        check.due("and the next one", x.pages(10), 1);
        check.due("heap 0 has one page", x.pages(0), 1);
        check.due("there are five", x.use(0), 5);
    }

    @Sentence(promise = 5, words = "It is put into the first page of that heap with enough room.")
    static void firstPageWithRoomIsTaken(Check check) {
        ProcessHeaps x = new ProcessHeaps(8);
        x.make(0, 0, 10, 1);
        x.make(0, 1, 7, 2);
        check.due("7 more than 10 need a new page", x.pages(0), 2);
        x.make(0, 2, 1, 3);
        x.make(0, 3, 9, 4);
        check.due("1 went into the first page, so that 9 fit in the second", x.pages(0), 2);
        x.make(0, 2, 5, 5);
        check.due("5 fit in the first page", x.pages(0), 2);
        x.make(0, 2, 1, 6);
        check.due("then both are full", x.pages(0), 3);
    }

    @Sentence(promise = 5, words = "It is put into the first page of that heap with enough room.")
    static void firstPageIsTakenThoughAnotherFitsBetter(Check check) {
        ProcessHeaps x = new ProcessHeaps(8);
        x.make(0, 0, 9, 1);
        x.make(0, 1, 12, 2);
        x.make(0, 2, 4, 3);
        check.due("4 fit in both", x.pages(0), 2);
        x.make(0, 2, 7, 4);
        check.due("they went into the first, so that 7 find no room", x.pages(0), 3);
        x.make(0, 2, 4, 5);
        x.make(0, 2, 3, 6);
        check.due("4 fill the second, 3 the first", x.pages(0), 3);
    }

    @Sentence(promise = {5, 14}, words = "The pages of a heap are in an order: a new one comes last.")
    static void newPageComesLast(Check check) {
        ProcessHeaps x = new ProcessHeaps(4);
        x.make(0, 0, 16, 1);
        x.make(0, 1, 12, 2);
        x.move(0, 0, -1);
        x.collect(0);
        x.make(0, 0, 8, 3);
        x.make(0, 2, 4, 4);
        check.due("4 filled the older page, so that 8 fit in the newer", x.make(0, 3, 8, 5), 0);
        check.due("pages(0)", x.pages(0), 2);
    }

    @Sentence(promise = {5, 17},
            words = "If there is none, a new page is needed, which node 0 pays for if it is the kernel's, else the node of the process.")
    static void newPageIsPaidFor(Check check) {
        ProcessHeaps x = new ProcessHeaps(8);
        x.spawn(0, 3, true);
        x.mode(1, true);
        x.make(1, 0, 16, 1);
        check.due("node 0 pays for the kernel's", x.use(0), 4);
        check.due("not the node of the process", x.use(1), 0);
        x.mode(1, false);
        x.make(1, 0, 16, 1);
        check.due("the node of the process pays for its own", x.use(1), 1);
        x.begin(1);
        x.make(1, 0, 16, 1);
        check.due("and for the built one's", x.use(1), 2);
        check.due("node 0 does not", x.use(0), 4);
        x.make(0, 0, 16, 1);
        check.due("node 0 pays for the pages of heap 0", x.use(0), 5);
    }

    @Sentence(promise = 5, words = "which node 0 pays for if it is the kernel's")
    static void kernelPageNeedsNothingOfTheProcess(Check check) {
        ProcessHeaps x = new ProcessHeaps(8);
        x.spawn(0, 1, true);
        x.make(1, 0, 16, 1);
        check.due("node 1 can pay no page", x.room(1), 0);
        x.mode(1, true);
        check.due("node 0 can", x.make(1, 1, 16, 1), 0);
    }

    @Sentence(promise = 5, words = "If that node cannot pay 1 more page, there is first a collection")
    static void noCollectionWithoutNeed(Check check) {
        ProcessHeaps x = new ProcessHeaps(8);
        x.spawn(0, 2, false);
        Scenes.makeGarbage(x, 1, 1, 12);
        x.make(1, 0, 16, 1);
        check.due("the node can pay no more", x.room(1), 0);
        x.make(1, 1, 4, 2);
        check.due("but there was room in a page", x.objects(1), 3);
        x.mode(1, true);
        Scenes.makeGarbage(x, 1, 1, 12);
        x.make(1, 2, 16, 3);
        check.due("and node 0 could pay", x.objects(KERNEL), 2);
    }

    @Sentence(promise = 5, words = "(of the kernel heap if the process is in kernel mode, otherwise of its own heap)")
    static void kernelHeapIsCollectedInKernelMode(Check check) {
        for (boolean builds : new boolean[] {false, true}) {
            ProcessHeaps x = withFullKernel();
            if (builds) {
                x.begin(1);
            }
            x.move(1, 3, -1);
            check.due("make in kernel mode", x.make(1, 3, 16, 9), 0);
            check.due("the garbage of the kernel is freed", x.objects(KERNEL), 3);
            check.due("that of the own heap is not", x.objects(1), 2);
        }
    }

    @Sentence(promise = 5, words = "(of the kernel heap if the process is in kernel mode, otherwise of its own heap)")
    static void ownHeapIsCollectedInUserMode(Check check) {
        for (boolean builds : new boolean[] {false, true}) {
            ProcessHeaps x = withLittleGarbage();
            if (builds) {
                x.begin(1);
            }
            x.move(1, 0, -1);
            check.due("make in user mode", x.make(1, 0, 16, 9), 0);
            check.due("the garbage of the own heap is freed", x.objects(1), builds ? 1 : 2);
            check.due("that of the kernel is not", x.objects(KERNEL), 1);
            check.due("nor that of another process", x.objects(0), 1);
            check.due("the new one is where it belongs", x.where(1, 0), builds ? 9 : 1);
        }
    }

    @Sentence(promise = 5, words = "COLLECTION of heap h (an own heap, or the kernel's)")
    static void builtHeapIsNotCollected(Check check) {
        ProcessHeaps x = new ProcessHeaps(8);
        x.spawn(0, 1, false);
        x.begin(1);
        Scenes.makeGarbage(x, 1, 2, 8);
        check.due("all is garbage", x.make(1, 0, 1, 1), LIMIT);
        check.due("it stays", x.objects(9), 2);
        check.due("on its page", x.pages(9), 1);
    }

    @Sentence(promise = 5, words = "then it is tried once more: the first page with enough room, else a new page.")
    static void madeInFirstPageAfterTheCollection(Check check) {
        ProcessHeaps x = new ProcessHeaps(8);
        x.spawn(0, 3, false);
        x.make(1, 0, 10, 1);
        Scenes.makeGarbage(x, 1, 1, 6);
        x.make(1, 1, 10, 2);
        Scenes.makeGarbage(x, 1, 1, 6);
        x.make(1, 2, 15, 3);
        check.due("6 cells, after a collection", x.make(1, 3, 6, 4), 0);
        check.due("no page is new", x.pages(1), 3);
        x.move(1, 0, -1);
        x.collect(1);
        check.due("it is in the first page, of which 10 cells are free: 16 find no room", x.make(1, 0, 16, 5), LIMIT);
        check.due("but 10 do", x.make(1, 0, 10, 5), 0);
        check.due("and 6 in the second page", x.make(1, 0, 6, 5), 0);
    }

    @Sentence(promise = 5, words = "then it is tried once more: the first page with enough room, else a new page.")
    static void madeInNewPageAfterTheCollection(Check check) {
        ProcessHeaps x = new ProcessHeaps(8);
        x.spawn(0, 2, false);
        Scenes.makeGarbage(x, 1, 1, 16);
        x.make(1, 0, 10, 1);
        check.due("7 cells, after a collection", x.make(1, 1, 7, 2), 0);
        check.due("one page was given back, one is new", x.pages(1), 2);
        check.due("two objects", x.objects(1), 2);
        check.due("the new page is the last: 6 go into the other one", x.make(1, 2, 6, 3), 0);
        check.due("then 9 into the new one", x.make(1, 3, 9, 4), 0);
        check.due("pages(1)", x.pages(1), 2);
    }

    @Sentence(promise = {5, 14, 17}, words = "A page that has no object is given back at once.")
    static void pageWithoutObjectIsGivenBack(Check check) {
        ProcessHeaps x = new ProcessHeaps(8);
        x.make(0, 0, 16, 1);
        x.make(0, 1, 16, 2);
        x.make(0, 2, 15, 3);
        x.make(0, 3, 1, 4);
        x.move(0, 0, -1);
        x.move(0, 2, -1);
        check.due("two are freed", x.collect(0), 2);
        check.due("a page with one object left stays", x.pages(0), 2);
        check.due("and is paid for", x.use(0), 2);
        x.move(0, 3, -1);
        x.collect(0);
        check.due("the page of the last one is given back", x.pages(0), 1);
        check.due("and paid for no more", x.use(0), 1);
        x.move(0, 1, -1);
        x.collect(0);
        check.due("no page is left", x.pages(0), 0);
        check.due("all can be paid again", x.room(0), 8);
    }

    @Sentence(promise = 14, words = "The number of pages of heap h")
    static void pagesAreCounted(Check check) {
        int[] pages = {2, 1, 0, 1, 0, 0, 0, 0, 2, 2, 1, 0, 0};
        for (int h = 0; h < pages.length; h++) {
            check.due("pages(" + h + ")", Scenes.BUSY.make().pages(h), pages[h]);
        }
        ProcessHeaps x = new ProcessHeaps(24);
        Scenes.makeChain(x, 0, 24, 16);
        check.due("a store of full pages", x.pages(0), 24);
    }

    @Sentence(promise = 15, words = "The number of objects of heap h")
    static void objectsAreCounted(Check check) {
        int[] objects = {3, 2, 0, 2, 0, 0, 0, 0, 5, 2, 1, 0, 0};
        for (int h = 0; h < objects.length; h++) {
            check.due("objects(" + h + ")", Scenes.BUSY.make().objects(h), objects[h]);
        }
        check.due("objects(7) of eight", Scenes.EIGHT.make().objects(7), 1);
    }

    /** Heap 9 is gone, 10 and 11 are frozen, 12 is built. */
    private static ProcessHeaps withFourBegun() {
        ProcessHeaps x = new ProcessHeaps(24);
        Scenes.freezeOne(x, 0, 1);
        x.move(0, 0, -1);
        x.collect(0);
        Scenes.freezeOne(x, 0, 1);
        x.move(0, 1, 0);
        Scenes.freezeOne(x, 0, 2);
        x.begin(0);
        x.make(0, 2, 1, 1);
        return x;
    }

    @Sentence(promise = {14, 15},
            words = "heaps 9 .. 12 are SHARED ones, numbered as they are begun, each at first being BUILT by one process, then FROZEN, then GONE.")
    static void sharedHeapsAreCounted(Check check) {
        int[] counts = {0, 1, 2, 1};
        for (int h = 9; h < 13; h++) {
            check.due("pages(" + h + ")", withFourBegun().pages(h), counts[h - 9]);
            check.due("objects(" + h + ")", withFourBegun().objects(h), counts[h - 9]);
        }
    }

    @Sentence(promise = {14, 15}, words = "0 if there is no such heap.")
    static void noSuchHeapHasNone(Check check) {
        for (int h : Scenes.outside(0, 12)) {
            check.due("pages(" + h + ")", Scenes.BUSY.make().pages(h), 0);
            check.due("objects(" + h + ")", Scenes.BUSY.make().objects(h), 0);
            check.due("pages(" + h + ") of eight", Scenes.EIGHT.make().pages(h), 0);
            check.due("objects(" + h + ") of eight", Scenes.EIGHT.make().objects(h), 0);
        }
        for (int h : new int[] {2, 5, 7, 11, 12}) {
            check.due("pages(" + h + ") of a dead one, or of one that was not made", Scenes.BUSY.make().pages(h), 0);
            check.due("objects(" + h + ") of a dead one, or of one that was not made", Scenes.BUSY.make().objects(h), 0);
        }
    }

    @Sentence(promise = 20, words = "The heap of the object that register r of process p holds")
    static void whereTellsTheHeap(Check check) {
        int[] heaps = {KERNEL, 9, 1, 10};
        for (int r = 0; r < 4; r++) {
            check.due("where(1, " + r + ")", Scenes.BUSY.make().where(1, r), heaps[r]);
        }
        for (int p = 0; p < 8; p++) {
            check.due("where(" + p + ", 0)", Scenes.EIGHT.make().where(p, 0), p);
        }
        check.due("of heap 12", withFourBegun().where(0, 2), 12);
    }

    @Sentence(promise = 20, words = "EMPTY if it holds none")
    static void whereOfEmptyRegister(Check check) {
        for (int r = 0; r < 4; r++) {
            check.due("where(0, " + r + ") of a new object", new ProcessHeaps(4).where(0, r), EMPTY);
            check.due("where(7, " + r + ")", Scenes.EIGHT.make().where(7, r), r == 0 ? 7 : EMPTY);
            int register = r;
            Scene emptied = Scenes.BUSY.then(x -> x.move(1, register, -1));
            check.refused("where(1, " + r + ") after a move", emptied, x -> x.where(1, register), EMPTY);
        }
    }

    @Sentence(promise = 20, words = "BAD if p is not a living process or r is not 0 .. 3.")
    static void whereIsBad(Check check) {
        for (int p : Scenes.NOT_LIVING) {
            for (int r = 0; r < 4; r++) {
                int register = r;
                check.refused("where(" + p + ", " + r + ")", Scenes.BUSY, x -> x.where(p, register), BAD);
            }
        }
        for (int r : Scenes.NO_REGISTER) {
            check.refused("where(1, " + r + ")", Scenes.BUSY, x -> x.where(1, r), BAD);
            check.refused("where(4, " + r + ")", Scenes.BUSY, x -> x.where(4, r), BAD);
        }
        ProcessHeaps x = Scenes.BUSY.make();
        check.due("one that lives", x.where(1, 0), KERNEL);
        x.kill(1);
        check.due("is dead at once", x.where(1, 0), BAD);
    }

    @Sentence(promise = 20, words = "EMPTY if it holds none; BAD if p is not a living process or r is not 0 .. 3.")
    static void whereOfDeadProcessIsBad(Check check) {
        for (int r = 0; r < 4; r++) {
            ProcessHeaps x = Scenes.EIGHT.make();
            check.due("where(7, " + r + ") while it lives", x.where(7, r), r == 0 ? 7 : EMPTY);
            x.kill(7);
            check.due("where(7, " + r + ") when it is dead", x.where(7, r), BAD);
            check.due("where(7, " + r + ") of one that was not made", new ProcessHeaps(4).where(7, r), BAD);
        }
    }

    @Sentence(promise = 21, words = "The tag of the object that register r of process p holds")
    static void tagIsTold(Check check) {
        int[] tags = {80, 91, 10, 100};
        for (int r = 0; r < 4; r++) {
            check.due("tag(1, " + r + ")", Scenes.BUSY.make().tag(1, r), tags[r]);
        }
        for (int p = 0; p < 8; p++) {
            check.due("tag(" + p + ", 0)", Scenes.EIGHT.make().tag(p, 0), 10 + p);
        }
    }

    @Sentence(promise = 21, words = "0 if it holds none, or there is no such register or living process.")
    static void tagOfNothing(Check check) {
        for (int r = 1; r < 4; r++) {
            check.due("tag(7, " + r + ") of an empty register", Scenes.EIGHT.make().tag(7, r), 0);
        }
        for (int r : Scenes.NO_REGISTER) {
            check.due("tag(1, " + r + ")", Scenes.BUSY.make().tag(1, r), 0);
        }
        for (int p : Scenes.NOT_LIVING) {
            for (int r = 0; r < 4; r++) {
                check.due("tag(" + p + ", " + r + ")", Scenes.BUSY.make().tag(p, r), 0);
            }
        }
        check.due("tag(1, 0) of one that has died", Scenes.BUSY.then(x -> x.kill(1)).make().tag(1, 0), 0);
        check.refused("tag(1, 4)", Scenes.BUSY, x -> x.tag(1, 4), 0);
    }

    public static void main(String[] args) throws Exception {
        Tests.run(ObjectTest.class);
    }
}
