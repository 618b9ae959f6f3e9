/** What becomes of things when a process dies, by kill (promise 3) or when it gets back into user mode (4). */
public final class DeathTest {
    private static final int BAD = ProcessHeaps.BAD;
    private static final int KERNEL = 8;

    private DeathTest() {
    }

    @Sentence(promise = {3, 20, 21}, words = "DEATH of process p. Its registers become empty.")
    static void registersBecomeEmpty(Check check) {
        for (int r = 0; r < 4; r++) {
            ProcessHeaps x = new ProcessHeaps(8);
            x.spawn(0, 4, false);
            x.mode(1, true);
            x.make(1, r, 1, 7);
            x.kill(1);
            check.due("register " + r + " holds a kernel object until then", x.collect(KERNEL), 0);
            x.mode(1, false);
            check.due("where(1, " + r + ")", x.where(1, r), BAD);
            check.due("tag(1, " + r + ")", x.tag(1, r), 0);
            check.due("then it does not", x.collect(KERNEL), 1);
        }
    }

    /** Process 1 shares heaps 9 (1 page), 10 (2) and 11 (3) that process 0 froze, and names objects of 9 and 11. */
    private static ProcessHeaps withThreeFrozen() {
        ProcessHeaps x = new ProcessHeaps(24);
        x.spawn(0, 12, false);
        for (int h = 9; h < 12; h++) {
            Scenes.freezeOne(x, 0, h - 8);
            x.move(0, h - 8, 0);
            x.lookup(1, h, h - 9);
        }
        x.make(1, 3, 1, 1);
        x.store(1, 3, 0, 0);
        x.store(1, 3, 2, 2);
        x.store(1, 3, 2, 3);
        return x;
    }

    @Sentence(promise = {3, 17},
            words = "Its node goes on paying for those frozen heaps for an object of which its own heap has an exit item, for no other one")
    static void nodeGoesOnPaying(Check check) {
        ProcessHeaps x = withThreeFrozen();
        check.due("use(1) in life", x.use(1), 7);
        x.kill(1);
        check.due("use(1): its own page, heap 9, and heap 11 whose field was changed", x.use(1), 5);
        check.due("use(0)", x.use(0), 11);
        x.move(0, 1, -1);
        x.move(0, 2, -1);
        x.move(0, 3, -1);
        x.move(0, 0, -1);
        x.collect(0);
        check.due("heap 10 is gone", x.pages(10), 0);
        check.due("the others are not", x.pages(9) + x.pages(11), 4);
        check.due("use(0): what its child pays", x.use(0), 5);
    }

    @Sentence(promise = {3, 19}, words = "the process shares none any more.")
    static void deadOneSharesNone(Check check) {
        ProcessHeaps x = withThreeFrozen();
        x.kill(1);
        for (int h = 9; h < 12; h++) {
            check.due("shares(1, " + h + ")", x.shares(1, h), false);
            check.due("shares(0, " + h + ")", x.shares(0, h), true);
        }
    }

    @Sentence(promise = {3, 14, 15}, words = "Then its own heap is merged into the kernel heap")
    static void ownHeapIsMerged(Check check) {
        ProcessHeaps x = withThreeHeaps();
        x.kill(1);
        check.due("objects(1)", x.objects(1), 0);
        check.due("pages(1)", x.pages(1), 0);
        check.due("objects(8)", x.objects(KERNEL), 3);
        check.due("pages(8)", x.pages(KERNEL), 3);
        check.due("what process 0 made is held", x.collect(KERNEL), 2);
    }

    @Sentence(promise = {3, 9, 10, 11, 14, 15},
            words = "so is the shared heap that it is building, if there is one (which is GONE then)")
    static void builtHeapIsMerged(Check check) {
        Scene dead = ((Scene) DeathTest::withThreeHeaps).then(x -> x.kill(1));
        check.due("objects(9)", dead.make().objects(9), 0);
        check.due("pages(9)", dead.make().pages(9), 0);
        check.refused("lookup(0, 9, 1)", dead, x -> x.lookup(0, 9, 1), BAD);
        check.due("its number is not used again", dead.make().begin(0), 10);
        ProcessHeaps x = new ProcessHeaps(8);
        x.spawn(0, 4, false);
        x.begin(1);
        x.kill(1);
        check.due("one without objects", x.pages(KERNEL) + x.pages(9), 0);
        check.due("node 1 has ceased", x.use(1), BAD);
    }

    /** The own page of process 1 is the oldest, with 6 free cells; then its built one, with 8; then the kernel's, with 4. */
    private static ProcessHeaps withThreeHeaps() {
        ProcessHeaps x = new ProcessHeaps(8);
        x.spawn(0, 6, false);
        x.make(1, 0, 10, 1);
        x.begin(1);
        x.make(1, 1, 8, 2);
        x.mode(0, true);
        x.make(0, 0, 12, 3);
        return x;
    }

    @Sentence(promise = {3, 5},
            words = "their objects are the kernel's now, their pages come behind the kernel's in their order (those of the own heap first)")
    static void mergedPagesComeBehind(Check check) {
        ProcessHeaps x = withThreeHeaps();
        x.kill(1);
        x.make(0, 1, 4, 4);
        x.make(0, 2, 6, 5);
        x.make(0, 3, 8, 6);
        check.due("4 fit in the kernel's page, then 6 in the own one, then 8 in the built one", x.pages(KERNEL), 3);
        x.make(0, 3, 1, 7);
        check.due("all are full", x.pages(KERNEL), 4);
    }

    /** Pages of heap 1 with 2, 4 and 8 free cells, made in turn with pages of heap 0. */
    private static ProcessHeaps withPagesInTurn() {
        ProcessHeaps x = new ProcessHeaps(12);
        x.spawn(0, 6, false);
        int[] sizes = {14, 12, 8};
        for (int i = 0; i < sizes.length; i++) {
            x.make(1, i, sizes[i], i);
            x.make(0, i, 16, i);
        }
        return x;
    }

    @Sentence(promise = {3, 5}, words = "their pages come behind the kernel's in their order")
    static void mergedPagesKeepTheirOrder(Check check) {
        ProcessHeaps x = withPagesInTurn();
        x.kill(1);
        x.mode(0, true);
        x.make(0, 3, 2, 5);
        x.make(0, 3, 4, 6);
        x.make(0, 3, 8, 7);
        check.due("2 fit in the first page, then 4 in the second, then 8 in the third", x.pages(KERNEL), 3);
        check.due("the pages of heap 0 are as they were", x.pages(0), 3);
    }

    @Sentence(promise = {3, 5}, words = "their pages come behind the kernel's in their order")
    static void newKernelPageComesBehindMergedOnes(Check check) {
        ProcessHeaps x = withPagesInTurn();
        x.kill(1);
        x.mode(0, true);
        x.make(0, 3, 9, 5);
        check.due("9 need a new page", x.pages(KERNEL), 4);
        x.make(0, 3, 7, 6);
        x.make(0, 3, 7, 7);
        check.due("7 go into the third page, 7 more into the new one", x.pages(KERNEL), 4);
        x.make(0, 3, 2, 8);
        x.make(0, 3, 4, 9);
        x.make(0, 3, 1, 9);
        check.due("2, 4 and 1 fill the first three", x.pages(KERNEL), 4);
        x.make(0, 3, 1, 9);
        check.due("then all are full", x.pages(KERNEL), 5);
    }

    @Sentence(promise = {3, 17}, words = "paid for by the same node as before.")
    static void mergedPagesArePaidForAsBefore(Check check) {
        ProcessHeaps x = withThreeHeaps();
        int[] before = {x.use(0), x.use(1), x.room(0), x.room(1)};
        x.kill(1);
        check.due("use(0)", x.use(0), before[0]);
        check.due("use(1)", x.use(1), before[1]);
        check.due("room(0)", x.room(0), before[2]);
        check.due("room(1)", x.room(1), before[3]);
        check.due("use(1) is its own page and the built one", x.use(1), 2);
        check.due("use(0) is the kernel's page and what its child uses", x.use(0), 3);
    }

    @Sentence(promise = {3, 17}, words = "Each page has one node that PAYS for it, from when it is made until it is given back")
    static void mergedPageIsPaidForUntilItIsGivenBack(Check check) {
        ProcessHeaps x = withThreeHeaps();
        x.kill(1);
        x.make(0, 1, 6, 4);
        check.due("an object of process 0 is in the own page of the dead one", x.pages(KERNEL), 3);
        check.due("the dead one's objects are freed", x.collect(KERNEL), 2);
        check.due("its node pays for the page that process 0 uses", x.use(1), 1);
        check.due("node 0 for the other one, and for its child", x.use(0), 2);
        x.move(0, 1, -1);
        x.collect(KERNEL);
        check.due("the page is given back, the node ceases", x.use(1), BAD);
        check.due("node 0 has one page", x.use(0), 1);
    }

    /** Processes 1 and 2 have each an own object and a kernel object that name each other, held by no register. */
    private static ProcessHeaps withRings() {
        ProcessHeaps x = new ProcessHeaps(12);
        for (int p = 1; p < 3; p++) {
            x.spawn(0, 4, false);
            x.make(p, 0, 8, 10 + p);
            x.mode(p, true);
            x.make(p, 1, 16, 20 + p);
            x.store(p, 0, 0, 1);
            x.store(p, 1, 0, 0);
            x.mode(p, false);
            x.move(p, 0, -1);
            x.move(p, 1, -1);
        }
        return x;
    }

    @Sentence(promise = {3, 12, 16}, words = "The exit items of the own heap for kernel objects")
    static void itemsForKernelObjectsAreLost(Check check) {
        ProcessHeaps x = withRings();
        check.due("they hold the kernel objects", x.collect(KERNEL), 0);
        x.kill(1);
        check.due("items(1)", x.items(1), 0);
        check.due("items(2) is as it was", x.items(2), 1);
        check.due("the kernel object of process 1 and its own one are freed", x.collect(KERNEL), 2);
        check.due("those of process 2 are not", x.objects(2) + x.objects(KERNEL), 2);
    }

    @Sentence(promise = {3, 12, 16}, words = "those of the kernel heap for objects of the own heap, are lost")
    static void itemsOfTheKernelAreLost(Check check) {
        ProcessHeaps x = withRings();
        check.due("items(8)", x.items(KERNEL), 2);
        x.kill(1);
        check.due("one of two is lost at once", x.items(KERNEL), 1);
        check.due("the other one holds the own object of process 2", x.collect(2), 0);
        x.kill(2);
        check.due("then none is left", x.items(KERNEL), 0);
        check.due("all are freed", x.collect(KERNEL), 4);
    }

    @Sentence(promise = {3, 16},
            words = "those of the own heap for objects of frozen heaps are the kernel heap's now (one for each object).")
    static void itemsForFrozenObjectsAreTheKernels(Check check) {
        ProcessHeaps x = withThreeFrozen();
        check.due("items(1)", x.items(1), 2);
        x.kill(1);
        check.due("items(1) after the death", x.items(1), 0);
        check.due("items(8): also that whose field was changed", x.items(KERNEL), 2);
    }

    @Sentence(promise = {3, 16}, words = "are the kernel heap's now (one for each object).")
    static void itemsForTheSameObjectBecomeOne(Check check) {
        ProcessHeaps x = new ProcessHeaps(24);
        Scenes.freezeOne(x, 0, 1);
        for (int p = 1; p < 4; p++) {
            x.spawn(0, 6, false);
            x.lookup(p, 9, 0);
            x.make(p, 1, 1, p);
            x.store(p, 1, 0, 0);
        }
        for (int p = 1; p < 3; p++) {
            x.kill(p);
            check.due("items(8) after the death of " + p, x.items(KERNEL), 1);
            check.due("items(" + p + ")", x.items(p), 0);
        }
        check.due("items(3) is as it was", x.items(3), 1);
        check.due("all three nodes pay for heap 9", x.use(1) + x.use(2) + x.use(3), 6);
        check.due("the objects of the dead are freed", x.collect(KERNEL), 2);
        check.due("items(3) is as it was", x.items(3), 1);
        check.due("node 1 has ceased", x.use(1), BAD);
        check.due("node 3 pays", x.use(3), 2);
    }

    @Sentence(promise = {3, 14}, words = "Frozen heaps are GONE as said above.")
    static void frozenHeapsAreGone(Check check) {
        ProcessHeaps x = new ProcessHeaps(24);
        x.spawn(0, 12, false);
        for (int h = 9; h < 12; h++) {
            Scenes.freezeOne(x, 1, h - 8);
            x.move(1, h - 8, 0);
        }
        x.make(1, 0, 1, 1);
        x.store(1, 0, 1, 2);
        x.lookup(0, 11, 0);
        x.kill(1);
        check.due("pages(9): nothing keeps it", x.pages(9), 0);
        check.due("objects(9)", x.objects(9), 0);
        check.due("pages(10): the exit item that is the kernel's now", x.pages(10), 2);
        check.due("pages(11): process 0", x.pages(11), 3);
        check.due("use(1): its page and heap 10", x.use(1), 3);
    }

    @Sentence(promise = {3, 14, 17}, words = "Frozen heaps are GONE as said above.")
    static void eachFrozenHeapIsGone(Check check) {
        ProcessHeaps x = new ProcessHeaps(24);
        x.spawn(0, 12, false);
        for (int h = 9; h < 13; h++) {
            Scenes.freezeOne(x, 1, 1);
            x.move(1, h - 9, 0);
        }
        check.due("use(1)", x.use(1), 4);
        x.kill(1);
        for (int h = 9; h < 13; h++) {
            check.due("pages(" + h + ")", x.pages(h), 0);
        }
        check.due("node 1 has ceased", x.use(1), BAD);
    }

    @Sentence(promise = {3, 4}, words = "A DOOMED one that gets back dies at once.")
    static void bothWaysToDeathAreTheSame(Check check) {
        Scene[] scenes = {Scenes.BUSY, DeathTest::withThreeFrozen, DeathTest::withThreeHeaps, DeathTest::withPagesInTurn, DeathTest::withRings};
        for (Scene scene : scenes) {
            Scene doomed = scene.then(x -> {
                x.mode(1, true);
                x.kill(1);
            });
            check.same("DOOMED, then back", doomed.then(x -> x.mode(1, false)), scene.then(x -> x.kill(1)));
            check.due("objects of heap 1 until then", doomed.make().objects(1), scene.make().objects(1));
        }
    }

    @Sentence(promise = {2, 3, 13}, words = "the parent of another one is the node of the process that made it.")
    static void childrenLiveOn(Check check) {
        ProcessHeaps x = new ProcessHeaps(12);
        x.spawn(0, 3, false);
        x.spawn(1, 6, false);
        x.kill(1);
        check.due("state(2)", x.state(2), 1);
        check.due("node 1 exists for it", x.use(1), 0);
        check.due("and sets its limit", x.room(2), 3);
        check.due("it makes objects", x.make(2, 0, 16, 1), 0);
        check.due("use(1)", x.use(1), 1);
        check.due("it makes processes", x.spawn(2, 2, true), 3);
        check.due("use(1) with the hard one", x.use(1), 3);
    }

    public static void main(String[] args) throws Exception {
        Tests.run(DeathTest.class);
    }
}
