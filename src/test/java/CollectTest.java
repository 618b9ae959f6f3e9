/** Promises 12 and 16, and what a death leaves: collect, items, the merge into the kernel heap. */
public final class CollectTest {
    private static final int BAD = ProcessHeaps.BAD;
    private static final int KERNEL = 8;
    private static final Check CHECK = new Check();

    private CollectTest() {
    }

    private static void wrongInputs() {
        ProcessHeaps x = new ProcessHeaps(8);
        x.spawn(0, 4, false);
        x.kill(1);
        int[] heaps = {Integer.MIN_VALUE, -1, 1, 2, 7, 9, 12, 13, Integer.MAX_VALUE};
        for (int h : heaps) {
            CHECK.due("12: heap " + h, x.collect(h), BAD);
        }
        CHECK.due("12: heap 0", x.collect(0), 0);
        CHECK.due("12: the kernel heap", x.collect(KERNEL), 0);
    }

    private static void chainsAndRings() {
        ProcessHeaps x = new ProcessHeaps(8);
        x.make(0, 0, 1, 0);
        x.move(0, 2, 0);
        for (int i = 1; i < 50; i++) {
            x.make(0, 1, 1, i);
            x.store(0, 0, i % 3, 1);
            x.move(0, 0, 1);
        }
        x.store(0, 0, 0, 2);
        x.move(0, 2, -1);
        x.move(0, 1, -1);
        CHECK.due("12: a ring of 50 is held by one register", x.collect(0), 0);
        for (int i = 0; i < 5; i++) {
            x.make(0, 1, 1, i);
        }
        CHECK.due("12: four of five are not held", x.collect(0), 4);
        x.move(0, 0, -1);
        CHECK.due("12: the ring is freed", x.collect(0), 50);
        CHECK.due("15: one is left", x.objects(0), 1);
        CHECK.due("14: on one page", x.pages(0), 1);
    }

    private static void denseChain() {
        ProcessHeaps x = new ProcessHeaps(8);
        x.make(0, 0, 1, 0);
        x.move(0, 1, 0);
        x.move(0, 3, 0);
        for (int i = 1; i < 60; i++) {
            x.make(0, 2, 1, i);
            for (int f = 0; f < 3; f++) {
                x.store(0, 1, f, 2);
            }
            x.move(0, 1, 2);
        }
        x.move(0, 1, -1);
        x.move(0, 2, -1);
        CHECK.due("12: 60 objects, each named three times over", x.collect(0), 0);
        CHECK.due("15: all are there", x.objects(0), 60);
        x.move(0, 0, -1);
        CHECK.due("12: a second register holds them", x.collect(0), 0);
        x.move(0, 3, -1);
        CHECK.due("12: all are freed", x.collect(0), 60);
    }

    private static void pagesAreGivenBack() {
        ProcessHeaps x = new ProcessHeaps(8);
        x.make(0, 0, 16, 1);
        x.make(0, 1, 16, 2);
        x.make(0, 2, 8, 3);
        x.make(0, 3, 8, 4);
        CHECK.due("14: three pages", x.pages(0), 3);
        x.move(0, 0, -1);
        x.move(0, 3, -1);
        CHECK.due("12: two are freed", x.collect(0), 2);
        CHECK.due("14: a page with an object stays", x.pages(0), 2);
        CHECK.due("17: and is paid for", x.use(0), 2);
        x.move(0, 1, -1);
        x.move(0, 2, -1);
        x.collect(0);
        CHECK.due("14: no page is left", x.pages(0), 0);
    }

    /** Process 1 in kernel mode: register 0 holds an own object that names the kernel object in register 1. */
    private static ProcessHeaps withItem() {
        ProcessHeaps x = new ProcessHeaps(8);
        x.spawn(0, 6, false);
        x.make(1, 0, 4, 10);
        x.mode(1, true);
        x.make(1, 1, 4, 11);
        x.store(1, 0, 0, 1);
        return x;
    }

    private static void itemsAreRoots() {
        ProcessHeaps x = withItem();
        CHECK.due("16: of the own heap", x.items(1), 1);
        CHECK.due("16: none of the kernel heap", x.items(KERNEL), 0);
        x.move(1, 1, -1);
        CHECK.due("12: the item keeps the kernel object", x.collect(KERNEL), 0);
        x.move(1, 0, -1);
        CHECK.due("12: also while its holder is garbage", x.collect(KERNEL), 0);
        CHECK.due("12: the own heap is collected by itself", x.collect(1), 1);
        CHECK.due("16: the item is lost", x.items(1), 0);
        CHECK.due("12: then the kernel object is freed", x.collect(KERNEL), 1);
    }

    private static void itemsAreCountedByObject() {
        ProcessHeaps x = withItem();
        x.store(1, 0, 1, 1);
        CHECK.due("16: two fields, one object", x.items(1), 1);
        x.make(1, 2, 1, 12);
        x.store(1, 0, 1, 2);
        CHECK.due("16: two objects", x.items(1), 2);
        x.store(1, 0, 0, 3);
        x.store(1, 0, 1, 3);
        CHECK.due("16: changed fields change none", x.items(1), 2);
        x.collect(KERNEL);
        CHECK.due("16: nor does a collection of another heap", x.items(1), 2);
        x.store(1, 0, 2, 2);
        x.collect(1);
        CHECK.due("16: a collection leaves the one that a field names", x.items(1), 1);
    }

    private static void ringThroughTheKernel() {
        ProcessHeaps x = withItem();
        x.store(1, 1, 0, 0);
        x.move(1, 0, -1);
        x.move(1, 1, -1);
        CHECK.due("12: kept by the kernel heap", x.collect(1), 0);
        CHECK.due("12: kept by the own heap", x.collect(KERNEL), 0);
        x.mode(1, false);
        x.kill(1);
        CHECK.due("16: items between the merged heaps are lost", x.items(KERNEL) + x.items(1), 0);
        CHECK.due("15: both are the kernel's", x.objects(KERNEL), 2);
        CHECK.due("12: both are freed", x.collect(KERNEL), 2);
    }

    private static void registersOfTheDeadHoldNothing() {
        ProcessHeaps x = withItem();
        x.mode(1, false);
        x.kill(1);
        CHECK.due("15: nothing is left in the own heap", x.objects(1), 0);
        CHECK.due("14: no page either", x.pages(1), 0);
        CHECK.due("14: the kernel has both pages", x.pages(KERNEL), 2);
        CHECK.due("17: the dead one's node pays for its page", x.use(1), 1);
        CHECK.due("17: node 0 for the other one, and for its child", x.use(0), 2);
        CHECK.due("12: both objects are freed", x.collect(KERNEL), 2);
    }

    /** The own page of process 1 is the oldest, with 6 free cells; then its built one, with 8; then the kernel's, with 4. */
    private static ProcessHeaps withThreeHeaps() {
        ProcessHeaps x = new ProcessHeaps(8);
        x.spawn(0, 6, false);
        x.make(1, 0, 10, 1);
        x.begin(1);
        x.make(1, 1, 8, 2);
        x.mode(0, true);
        x.make(0, 0, 12, 3);
        return x;
    }

    private static void mergedPagesComeBehind() {
        ProcessHeaps x = withThreeHeaps();
        x.kill(1);
        CHECK.due("14: the built heap is gone", x.pages(9) + x.objects(9), 0);
        CHECK.due("11: it cannot be looked up", x.lookup(0, 9, 1), BAD);
        CHECK.due("14: the kernel has three pages", x.pages(KERNEL), 3);
        CHECK.due("15: and three objects", x.objects(KERNEL), 3);
        x.make(0, 1, 4, 4);
        x.make(0, 2, 6, 5);
        x.make(0, 3, 8, 6);
        CHECK.due("5: 4 fit in the kernel's page, then 6 in the own one, then 8 in the built one", x.pages(KERNEL), 3);
        CHECK.due("17: the dead one's node pays for two", x.use(1), 2);
        CHECK.due("12: the dead one's objects are freed", x.collect(KERNEL), 2);
        CHECK.due("17: its node pays for the pages that others use", x.use(1), 2);
        CHECK.due("17: node 0 for its own, and for its child", x.use(0), 3);
        x.move(0, 2, -1);
        x.move(0, 3, -1);
        x.collect(KERNEL);
        CHECK.due("17: then it ceases to exist", x.use(1), BAD);
    }

    private static void mergedPagesKeepTheirOrder() {
        ProcessHeaps x = new ProcessHeaps(12);
        x.spawn(0, 6, false);
        x.mode(0, true);
        int[] sizes = {14, 12, 8};
        for (int i = 0; i < sizes.length; i++) {
            x.make(1, i, sizes[i], i);
            x.mode(0, false);
            x.make(0, i, 16, i);
            x.mode(0, true);
        }
        x.kill(1);
        x.make(0, 0, 2, 5);
        x.make(0, 1, 4, 6);
        x.make(0, 2, 8, 7);
        CHECK.due("5: 2 fit in the first page, then 4 in the second, then 8 in the third", x.pages(KERNEL), 3);
        CHECK.due("14: the other heap's pages are as they were", x.pages(0), 3);
    }

    private static void itemsForTheSameObject() {
        ProcessHeaps x = new ProcessHeaps(24);
        x.begin(0);
        x.make(0, 0, 1, 9);
        x.freeze(0, 0);
        for (int p = 1; p < 3; p++) {
            x.spawn(0, 6, false);
            x.lookup(p, 9, 0);
            x.make(p, 1, 1, p);
            x.store(p, 1, 0, 0);
            x.kill(p);
        }
        CHECK.due("16: one for each object", x.items(KERNEL), 1);
        CHECK.due("16: none of heap 0 yet", x.items(0), 0);
        x.make(0, 1, 1, 3);
        x.store(0, 1, 0, 0);
        CHECK.due("16: heap 0 has one of its own for it", x.items(0), 1);
        CHECK.due("17: both nodes pay for the frozen heap", x.use(1) + x.use(2), 4);
        CHECK.due("12: both objects are freed", x.collect(KERNEL), 2);
        CHECK.due("17: node 1 has ceased", x.use(1), BAD);
        CHECK.due("17: node 2 has ceased", x.use(2), BAD);
    }

    public static void main(String[] args) {
        wrongInputs();
        chainsAndRings();
        denseChain();
        pagesAreGivenBack();
        itemsAreRoots();
        itemsAreCountedByObject();
        ringThroughTheKernel();
        registersOfTheDeadHoldNothing();
        mergedPagesComeBehind();
        mergedPagesKeepTheirOrder();
        itemsForTheSameObject();
        CHECK.finish();
    }
}
