/** Promises 9 to 11 and 19: begin, freeze, lookup, shares; and when a frozen heap is GONE. */
public final class SharedHeapTest {
    private static final int BAD = ProcessHeaps.BAD;
    private static final int EMPTY = ProcessHeaps.EMPTY;
    private static final int FULL = ProcessHeaps.FULL;
    private static final int LIMIT = ProcessHeaps.LIMIT;
    private static final int KERNEL = 8;

    private SharedHeapTest() {
    }

    @Sentence(promise = 9, words = "Process p begins a shared heap: its number 9 .. 12.")
    static void beginAnswersTheNumber(Check check) {
        ProcessHeaps x = Scenes.EIGHT.make();
        check.due("the first", x.begin(7), 9);
        check.due("the second", x.begin(0), 10);
        x.mode(3, true);
        check.due("the third, in kernel mode", x.begin(3), 11);
        check.due("the fourth", x.begin(4), 12);
        check.due("it is empty", x.pages(12) + x.objects(12), 0);
        check.due("nothing is paid for it", x.use(4), 1);
    }

    @Sentence(promise = 9, words = "numbered as they are begun")
    static void beginAfterFreezeOrGone(Check check) {
        ProcessHeaps x = new ProcessHeaps(24);
        Scenes.freezeOne(x, 0, 1);
        check.due("after a freeze", x.begin(0), 10);
        x.make(0, 1, 1, 1);
        x.freeze(0, 1);
        x.move(0, 0, -1);
        x.move(0, 1, -1);
        x.collect(0);
        check.due("heap 9 is gone", x.pages(9), 0);
        check.due("numbers are not used again", x.begin(0), 11);
    }

    @Sentence(promise = 9, words = "BAD if p is not a living process")
    static void beginIsBadUnlessTheProcessLives(Check check) {
        for (int p : Scenes.NOT_LIVING) {
            check.refused("begin(" + p + ")", Scenes.BUSY, x -> x.begin(p), BAD);
        }
        for (int p : new int[] {0, 3, 4}) {
            check.due("begin(" + p + ")", Scenes.BUSY.make().begin(p), 11);
        }
    }

    @Sentence(promise = 9, words = "BAD if p is not a living process or is building one.")
    static void beginIsBadWhileBuilding(Check check) {
        check.refused("it builds heap 10", Scenes.BUSY, x -> x.begin(1), BAD);
        check.refused("in kernel mode", Scenes.BUSY.then(x -> x.mode(1, true)), x -> x.begin(1), BAD);
        check.refused("nothing is made in it yet", Scenes.BUSY.then(x -> x.begin(0)), x -> x.begin(0), BAD);
        check.due("after the freeze", Scenes.BUSY.then(x -> x.freeze(1, 3)).make().begin(1), 11);
    }

    /** Process 1 froze heap 9, which is gone; heap 10 was merged at the death of process 2; 3 and 4 build 11 and 12. */
    private static ProcessHeaps withFourBegun() {
        ProcessHeaps x = Scenes.withFrozen(24, 1).make();
        x.move(1, 0, -1);
        x.collect(1);
        for (int p = 2; p < 5; p++) {
            x.spawn(0, 4, false);
            x.begin(p);
        }
        x.kill(2);
        return x;
    }

    @Sentence(promise = 9, words = "FULL if four were begun.")
    static void beginIsFullAfterFour(Check check) {
        Scene four = SharedHeapTest::withFourBegun;
        check.refused("by the one that froze heap 9", four, x -> x.begin(1), FULL);
        check.refused("by another", four, x -> x.begin(0), FULL);
        check.refused("BAD stands before FULL", four, x -> x.begin(3), BAD);
        check.refused("BAD of a dead one stands before FULL", four, x -> x.begin(2), BAD);
    }

    @Sentence(promise = 10,
            words = "The shared heap that process p is building is frozen, the object in register r is its HEAD, and p shares it: its number.")
    static void freezeMakesTheHead(Check check) {
        for (int r = 0; r < 4; r++) {
            ProcessHeaps x = Scenes.EIGHT.make();
            x.begin(0);
            x.begin(7);
            for (int each = 0; each < 4; each++) {
                x.make(7, each, 1, 70 + each);
            }
            check.due("freeze(7, " + r + ")", x.freeze(7, r), 10);
            check.due("shares(7, 10)", x.shares(7, 10), true);
            check.due("the heap of another is not frozen", x.lookup(7, 9, 0), BAD);
            check.due("lookup by another", x.lookup(3, 10, 2), 0);
            check.due("the head", x.tag(3, 2), 70 + r);
            check.due("others do not share it", x.shares(0, 10), false);
            check.due("its objects are there", x.objects(10), 4);
            check.due("the registers are as they were", x.tag(7, 3), 73);
        }
    }

    @Sentence(promise = 10, words = "BAD if p is not a living process")
    static void freezeIsBadUnlessTheProcessLives(Check check) {
        for (int p : Scenes.NOT_LIVING) {
            check.refused("freeze(" + p + ", 3)", Scenes.BUSY, x -> x.freeze(p, 3), BAD);
        }
    }

    @Sentence(promise = 10, words = "BAD if p is not a living process, r is not 0 .. 3, p is building none")
    static void freezeIsBadUnlessTheRegisterIsZeroToThree(Check check) {
        for (int r : Scenes.NO_REGISTER) {
            check.refused("freeze(1, " + r + ")", Scenes.BUSY, x -> x.freeze(1, r), BAD);
        }
    }

    @Sentence(promise = 10, words = "p is building none, or register r does not hold an object of that heap.")
    static void freezeIsBadIfNoneIsBuilt(Check check) {
        for (int r = 0; r < 4; r++) {
            int register = r;
            check.refused("freeze(0, " + r + ")", Scenes.BUSY, x -> x.freeze(0, register), BAD);
            check.refused("once more", Scenes.BUSY.then(x -> x.freeze(1, 3)), x -> x.freeze(1, register), BAD);
        }
    }

    @Sentence(promise = 10, words = "p is building none, or register r does not hold an object of that heap.")
    static void freezeIsBadUnlessTheRegisterHoldsSuchAnObject(Check check) {
        check.refused("a kernel object", Scenes.BUSY, x -> x.freeze(1, 0), BAD);
        check.refused("an object of heap 9, frozen before", Scenes.BUSY, x -> x.freeze(1, 1), BAD);
        check.refused("an own object", Scenes.BUSY, x -> x.freeze(1, 2), BAD);
        check.refused("an empty register", Scenes.BUSY.then(x -> x.move(1, 3, -1)), x -> x.freeze(1, 3), BAD);
        check.refused("nothing was made in it", Scenes.BUSY.then(x -> x.begin(0)), x -> x.freeze(0, 0), BAD);
        check.due("an object of heap 10", Scenes.BUSY.make().freeze(1, 3), 10);
        check.due("in kernel mode", Scenes.BUSY.then(x -> x.mode(1, true)).make().freeze(1, 3), 10);
    }

    @Sentence(promise = {10, 17},
            words = "(the one that paid for them while it was built pays for them in this way then, no more as single pages)")
    static void freezeChangesTheWayOfPaying(Check check) {
        ProcessHeaps x = new ProcessHeaps(8);
        x.spawn(0, 6, false);
        x.begin(1);
        Scenes.makeChain(x, 1, 3, 16);
        check.due("while it is built", x.use(1), 3);
        x.freeze(1, 0);
        check.due("when it is frozen", x.use(1), 3);
        check.due("above", x.use(0), 3);
        x.spawn(0, 3, true);
        x.lookup(2, 9, 0);
        x.move(1, 0, -1);
        x.collect(1);
        check.due("the builder has ceased to share it", x.use(1), 0);
        check.due("it is there yet", x.pages(9), 3);
    }

    @Sentence(promise = 11, words = "Register r of process p gets the HEAD of frozen heap h: 0.")
    static void lookupGetsTheHead(Check check) {
        for (int r = 0; r < 4; r++) {
            ProcessHeaps x = Scenes.EIGHT.make();
            x.make(7, r, 1, 5);
            Scenes.freezeOne(x, 0, 1);
            check.due("lookup(7, 9, " + r + ")", x.lookup(7, 9, r), 0);
            check.due("tag(7, " + r + ")", x.tag(7, r), 90);
            check.due("where(7, " + r + ")", x.where(7, r), 9);
        }
    }

    @Sentence(promise = 11, words = "Register r of process p gets the HEAD of frozen heap h: 0.")
    static void lookupOfEachHeap(Check check) {
        ProcessHeaps x = new ProcessHeaps(24);
        x.spawn(0, 24, false);
        for (int h = 9; h < 13; h++) {
            x.begin(0);
            x.make(0, h - 9, 1, h);
            x.freeze(0, h - 9);
        }
        for (int h = 9; h < 13; h++) {
            check.due("lookup(1, " + h + ", 2)", x.lookup(1, h, 2), 0);
            check.due("tag(1, 2)", x.tag(1, 2), h);
            check.due("shares(1, " + h + ")", x.shares(1, h), true);
        }
        check.due("all are paid for", x.use(1), 4);
    }

    @Sentence(promise = 11, words = "BAD if p is not a living process, r is not 0 .. 3, or heap h is not a frozen one.")
    static void lookupIsBadUnlessTheProcessLives(Check check) {
        for (int p : Scenes.NOT_LIVING) {
            check.refused("lookup(" + p + ", 9, 0)", Scenes.BUSY, x -> x.lookup(p, 9, 0), BAD);
        }
    }

    @Sentence(promise = 11, words = "BAD if p is not a living process, r is not 0 .. 3, or heap h is not a frozen one.")
    static void lookupIsBadUnlessTheRegisterIsZeroToThree(Check check) {
        for (int r : Scenes.NO_REGISTER) {
            check.refused("lookup(1, 9, " + r + ")", Scenes.BUSY, x -> x.lookup(1, 9, r), BAD);
            check.refused("lookup(0, 9, " + r + ")", Scenes.BUSY, x -> x.lookup(0, 9, r), BAD);
        }
    }

    @Sentence(promise = 11, words = "BAD if p is not a living process, r is not 0 .. 3, or heap h is not a frozen one.")
    static void lookupIsBadUnlessTheHeapIsFrozen(Check check) {
        for (int h : Scenes.outside(9, 9)) {
            check.refused("lookup(1, " + h + ", 0)", Scenes.BUSY, x -> x.lookup(1, h, 0), BAD);
        }
        for (int h : new int[] {-1, 0, 1, 2, 3, 7, 11, 12, 13, 41}) {
            check.refused("lookup(1, " + h + ", 0)", Scenes.BUSY, x -> x.lookup(1, h, 0), BAD);
        }
        Scene four = SharedHeapTest::withFourBegun;
        check.refused("one that is gone", four, x -> x.lookup(1, 9, 0), BAD);
        check.refused("one that was merged at a death", four, x -> x.lookup(1, 10, 0), BAD);
        check.refused("one that another builds", four, x -> x.lookup(1, 11, 0), BAD);
        check.refused("one that it builds itself", four, x -> x.lookup(4, 12, 0), BAD);
    }

    /** Heap 9 has 3 pages. Process 2 has a soft limit, 3 a hard one; 4 has a soft one of 24 under 2. */
    private static Scene withThreePages(int limit) {
        return Scenes.withFrozen(12, 3).then(x -> {
            x.spawn(0, limit, false);
            x.spawn(0, limit, true);
            x.spawn(2, 24, false);
        });
    }

    @Sentence(promise = 11, words = "If p does not share it yet, its node must be able to pay for all its pages")
    static void lookupIsPaidForInFull(Check check) {
        for (int p = 2; p <= 4; p++) {
            ProcessHeaps x = withThreePages(3).make();
            check.due("3 pages, of 3 that process " + p + " can pay", x.lookup(p, 9, 1), 0);
            check.due("use(" + p + ")", x.use(p), 3);
            check.due("room(" + p + ")", x.room(p), 0);
            int process = p;
            Scene scene = withThreePages(2);
            check.refused("3 pages, of 2 that process " + p + " can pay", scene, y -> y.lookup(process, 9, 1), LIMIT);
        }
        ProcessHeaps x = withThreePages(3).make();
        check.due("by the root", x.lookup(0, 9, 0), 0);
        check.due("it pays for 3, and for two of its children", x.use(0), 9);
        check.due("process 2 too", x.lookup(2, 9, 0), 0);
        check.due("the root has no page left", x.room(0), 0);
        check.due("a hard one has its own", x.lookup(3, 9, 0), 0);
        check.due("they are 3 pages all the same", x.pages(9), 3);
    }

    @Sentence(promise = 11, words = "If p does not share it yet, its node must be able to pay")
    static void lookupOnceMoreIsFree(Check check) {
        ProcessHeaps x = withThreePages(4).make();
        x.lookup(3, 9, 0);
        Scenes.makeGarbage(x, 3, 1, 16);
        check.due("no page is left", x.room(3), 0);
        check.due("lookup once more", x.lookup(3, 9, 1), 0);
        check.due("the head", x.tag(3, 1), 90);
        check.due("use(3)", x.use(3), 4);
        check.due("no collection was made", x.objects(3), 1);
        check.due("the builder, too, shares it", x.lookup(1, 9, 3), 0);
        check.due("use(1)", x.use(1), 3);
    }

    @Sentence(promise = 11, words = "if it cannot, there is first a collection of its own heap, and then it is tried once more")
    static void lookupCollectsTheOwnHeap(Check check) {
        for (boolean kernel : new boolean[] {false, true}) {
            ProcessHeaps x = withThreePages(4).make();
            x.make(3, 0, 16, 1);
            Scenes.makeGarbage(x, 3, 1, 16);
            Scenes.makeGarbage(x, 0, 1, 1);
            x.mode(3, true);
            Scenes.makeGarbage(x, 3, 1, 1);
            x.mode(3, kernel);
            check.due("2 pages are left for 3", x.room(3), 2);
            check.due("a collection gives one back", x.lookup(3, 9, 1), 0);
            check.due("the garbage of the own heap is freed", x.objects(3), 1);
            check.due("that of the kernel is not", x.objects(KERNEL), 1);
            check.due("nor that of another process", x.objects(0), 1);
            check.due("use(3)", x.use(3), 4);
        }
    }

    @Sentence(promise = 11, words = "if it cannot, there is first a collection of its own heap, and then it is tried once more")
    static void lookupCollectsOnlyIfItCannotPay(Check check) {
        ProcessHeaps x = withThreePages(4).make();
        Scenes.makeGarbage(x, 3, 1, 16);
        check.due("3 pages are left for 3", x.lookup(3, 9, 1), 0);
        check.due("the garbage stays", x.objects(3), 1);
    }

    @Sentence(promise = 11, words = "if it cannot, there is first a collection of its own heap, and then it is tried once more")
    static void lookupCollectionEndsOtherSharing(Check check) {
        Scene scene = withThreePages(4).then(x -> {
            x.lookup(3, 9, 0);
            Scenes.freezeOne(x, 0, 2);
        });
        ProcessHeaps x = scene.make();
        x.move(3, 0, -1);
        check.due("heap 9 is not used any more", x.lookup(3, 10, 0), 0);
        check.due("shares(3, 9)", x.shares(3, 9), false);
        check.due("use(3)", x.use(3), 2);
        check.limited("register r holds it during the collection", scene, y -> y.lookup(3, 10, 0), 3);
    }

    @Sentence(promise = 11, words = "LIMIT if it cannot.")
    static void lookupIsLimited(Check check) {
        Scene scene = withThreePages(4).then(x -> {
            Scenes.makeChain(x, 3, 2, 16);
            Scenes.makeGarbage(x, 3, 1, 16);
            Scenes.makeGarbage(x, 0, 1, 1);
            x.mode(0, true);
            Scenes.makeGarbage(x, 0, 1, 1);
        });
        check.limited("2 pages are left after the collection", scene, x -> x.lookup(3, 9, 1), 3);
        check.limited("into a register that holds something", scene, x -> x.lookup(3, 9, 0), 3);
        check.limited("in kernel mode", scene.then(x -> x.mode(3, true)), x -> x.lookup(3, 9, 1), 3);
        ProcessHeaps x = scene.make();
        check.due("lookup(3, 9, 1)", x.lookup(3, 9, 1), LIMIT);
        check.due("shares(3, 9)", x.shares(3, 9), false);
        check.due("where(3, 1)", x.where(3, 1), EMPTY);
        check.due("the garbage is freed", x.objects(3), 2);
    }

    @Sentence(promise = 11,
            words = "When several of these answers would do, the one that stands first in the method's comment is given.")
    static void lookupGivesTheFirstAnswer(Check check) {
        Scene scene = withThreePages(2).then(x -> Scenes.makeGarbage(x, 3, 1, 16));
        check.refused("BAD of the register before LIMIT: there is no collection", scene, x -> x.lookup(3, 9, 4), BAD);
        check.refused("BAD of the heap before LIMIT: there is no collection", scene, x -> x.lookup(3, 10, 0), BAD);
    }

    @Sentence(promise = {11, 19}, words = "Then p shares it.")
    static void lookupShares(Check check) {
        ProcessHeaps x = Scenes.BUSY.make();
        check.due("before", x.shares(0, 9), false);
        check.due("lookup(0, 9, 2)", x.lookup(0, 9, 2), 0);
        check.due("after", x.shares(0, 9), true);
        check.due("nobody else does", x.shares(3, 9), false);
    }

    @Sentence(promise = 19, words = "Whether process p shares frozen heap h.")
    static void sharesOfNoSuchThing(Check check) {
        for (int p : Scenes.NOT_LIVING) {
            check.refused("shares(" + p + ", 9)", Scenes.BUSY, x -> x.shares(p, 9));
        }
        for (int h : Scenes.outside(9, 9)) {
            check.refused("shares(1, " + h + ")", Scenes.BUSY, x -> x.shares(1, h));
        }
        for (int h : new int[] {-1, 0, 1, 8, 10, 11, 12, 13, 41}) {
            check.due("shares(1, " + h + ")", Scenes.BUSY.make().shares(1, h), false);
        }
        check.due("shares(1, 9)", Scenes.BUSY.make().shares(1, 9), true);
        check.due("shares(0, 9)", Scenes.BUSY.make().shares(0, 9), false);
    }

    @Sentence(promise = 19, words = "A process SHARES a frozen heap from when it froze it or looked it up")
    static void sharesFromTheFreezeOn(Check check) {
        ProcessHeaps x = Scenes.BUSY.make();
        check.due("while it is built", x.shares(1, 10), false);
        x.freeze(1, 3);
        check.due("when it is frozen", x.shares(1, 10), true);
        x.move(1, 3, -1);
        check.due("until a collection", x.shares(1, 10), true);
    }

    /** Process 2 shares heap 9, of which it holds only the object that the head names; process 1 shares it too. */
    private static ProcessHeaps withInnerObject() {
        ProcessHeaps x = new ProcessHeaps(24);
        x.spawn(0, 24, false);
        x.spawn(0, 24, false);
        x.begin(1);
        Scenes.makeChain(x, 1, 2, 16);
        x.freeze(1, 0);
        x.lookup(2, 9, 0);
        x.load(2, 0, 0, 0);
        return x;
    }

    @Sentence(promise = 19,
            words = "until a collection of its own heap after which that heap has no exit item for an object of the frozen heap and no register of the process holds one")
    static void registerKeepsSharing(Check check) {
        for (int r = 0; r < 4; r++) {
            ProcessHeaps x = withInnerObject();
            x.move(2, r, 0);
            x.move(2, r == 0 ? 1 : 0, -1);
            x.collect(2);
            check.due("register " + r + " holds an object that is not the head", x.shares(2, 9), true);
            x.move(2, r, -1);
            x.collect(0);
            x.collect(1);
            x.collect(KERNEL);
            check.due("a collection of another heap does not end it", x.shares(2, 9), true);
            x.collect(2);
            check.due("one of its own does", x.shares(2, 9), false);
            check.due("what another holds is nothing to it", x.shares(1, 9), true);
        }
    }

    @Sentence(promise = {16, 19}, words = "that heap has no exit item for an object of the frozen heap")
    static void exitItemKeepsSharing(Check check) {
        ProcessHeaps x = withInnerObject();
        x.make(2, 1, 1, 5);
        x.store(2, 1, 2, 0);
        x.move(2, 0, -1);
        x.collect(2);
        check.due("an own object names an object that is not the head", x.shares(2, 9), true);
        x.store(2, 1, 2, 3);
        check.due("the field is changed", x.items(2), 1);
        check.due("the sharing lasts", x.shares(2, 9), true);
        check.due("the node pays", x.use(2), 3);
        x.collect(2);
        check.due("the exit item is lost", x.items(2), 0);
        check.due("the sharing ends with it", x.shares(2, 9), false);
        check.due("and the payment", x.use(2), 1);
    }

    @Sentence(promise = {12, 19},
            words = "Then exit items are lost as said; then, for an own heap, the process ceases to share what it does not use, as said")
    static void sharingEndsWithGarbage(Check check) {
        ProcessHeaps x = withInnerObject();
        x.make(2, 1, 1, 5);
        x.store(2, 1, 0, 0);
        x.move(2, 0, -1);
        x.move(2, 1, -1);
        check.due("the object that names it is freed", x.collect(2), 1);
        check.due("the exit item is lost first, so the sharing ends at once", x.shares(2, 9), false);
    }

    @Sentence(promise = 19,
            words = "until it dies. The node of a living process pays for exactly the frozen heaps that it shares.")
    static void sharingEndsWithDeath(Check check) {
        ProcessHeaps x = withInnerObject();
        check.due("before", x.shares(2, 9), true);
        check.due("node 2 pays", x.use(2), 2);
        check.due("node 0 does not", x.use(0), 4);
        x.kill(2);
        check.due("after", x.shares(2, 9), false);
        check.due("the other one shares it", x.shares(1, 9), true);
        check.due("and pays", x.use(1), 2);
        check.due("node 2 is no more", x.use(2), BAD);
    }

    @Sentence(promise = {12, 14, 15, 17}, words = "is GONE at once: all its objects exist no more, nobody pays for it.")
    static void goneWithTheLastSharer(Check check) {
        ProcessHeaps x = withInnerObject();
        x.move(1, 0, -1);
        x.collect(1);
        check.due("process 2 shares it yet", x.pages(9), 2);
        check.due("its objects are all there, held or not", x.objects(9), 2);
        x.move(2, 0, -1);
        check.due("those of a frozen heap that is GONE are not counted", x.collect(2), 0);
        check.due("pages(9)", x.pages(9), 0);
        check.due("objects(9)", x.objects(9), 0);
        check.due("lookup(1, 9, 0)", x.lookup(1, 9, 0), BAD);
        check.due("nobody pays for it", x.use(0), 0);
    }

    @Sentence(promise = {3, 14, 15, 17},
            words = "A frozen heap that no living process shares, and for no object of which the kernel heap has an exit item, is GONE at once")
    static void goneWithADeath(Check check) {
        ProcessHeaps x = withInnerObject();
        x.kill(1);
        check.due("process 2 shares it yet", x.pages(9), 2);
        x.kill(2);
        check.due("pages(9)", x.pages(9), 0);
        check.due("objects(9)", x.objects(9), 0);
        check.due("lookup(0, 9, 0)", x.lookup(0, 9, 0), BAD);
        check.due("nobody pays for it", x.use(0), 0);
    }

    /** Process 2 is dead and has left in the kernel heap an object that names an inner one of heap 9. */
    private static ProcessHeaps withItemOfTheKernel() {
        ProcessHeaps x = withInnerObject();
        x.make(2, 1, 1, 5);
        x.store(2, 1, 0, 0);
        x.kill(2);
        return x;
    }

    @Sentence(promise = {12, 14}, words = "for no object of which the kernel heap has an exit item")
    static void exitItemOfTheKernelKeepsTheHeap(Check check) {
        ProcessHeaps x = withItemOfTheKernel();
        x.move(1, 0, -1);
        x.collect(1);
        check.due("nobody shares it", x.shares(1, 9), false);
        check.due("it is there yet", x.pages(9), 2);
        check.due("with all its objects", x.objects(9), 2);
        check.due("node 2 pays for it, and for its own page", x.use(2), 3);
        check.due("a collection of the kernel heap frees one, those of heap 9 are not counted", x.collect(KERNEL), 1);
        check.due("then heap 9 is gone", x.pages(9), 0);
        check.due("objects(9)", x.objects(9), 0);
        check.due("nobody pays for it", x.use(0), 0);
        check.due("lookup(0, 9, 0)", x.lookup(0, 9, 0), BAD);
    }

    @Sentence(promise = {11, 12, 14}, words = "A frozen heap that no living process shares")
    static void heapKeptByTheKernelCanBeSharedAgain(Check check) {
        ProcessHeaps x = withItemOfTheKernel();
        x.kill(1);
        check.due("lookup(0, 9, 0)", x.lookup(0, 9, 0), 0);
        check.due("tag(0, 0)", x.tag(0, 0), 1);
        x.collect(KERNEL);
        check.due("process 0 shares it", x.pages(9), 2);
        check.due("only node 0 pays", x.use(0), 2);
    }

    /*
     * "nobody pays for it" (Terms, of a heap that is GONE) cannot be broken alone for the node of a dead process: it
     * pays only while the kernel heap has an exit item for an object of that heap, and the collection that loses the
     * last such item ends its payment before the heap can be GONE. A frozen heap without a page cannot be either:
     * its head is an object of it, and frozen objects are not freed one by one. And the collection that lookup makes
     * cannot end the heap that is looked up: p does not share it then, so others or the kernel keep it.
     */

    public static void main(String[] args) throws Exception {
        Tests.run(SharedHeapTest.class);
    }
}
