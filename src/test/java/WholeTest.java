import java.util.Random;

/** What the document says in its first lines and in its last ones: of all processes, all heaps and all calls together. */
public final class WholeTest {
    private static final int LIMIT = ProcessHeaps.LIMIT;
    private static final int KERNEL = 8;
    private static final int CALLS = 512;

    private WholeTest() {
    }

    @Sentence(promise = {1, 5, 14, 18}, words = "Processes that share one store of pages")
    static void storeIsShared(Check check) {
        ProcessHeaps x = new ProcessHeaps(6);
        x.spawn(0, 24, false);
        x.spawn(1, 24, false);
        Scenes.makeChain(x, 1, 2, 16);
        Scenes.makeChain(x, 2, 3, 16);
        for (int p = 0; p < 3; p++) {
            check.due("one page is left to " + p, x.room(p), 1);
        }
        x.mode(0, true);
        check.due("the kernel heap takes it", x.make(0, 0, 1, 1), 0);
        for (int p = 0; p < 3; p++) {
            check.due("no page is left to " + p, x.room(p), 0);
        }
        check.due("not for heap 1", x.make(1, 1, 16, 1), LIMIT);
        check.due("not for heap 2", x.make(2, 1, 16, 1), LIMIT);
        check.due("not for the kernel heap", x.make(0, 1, 16, 1), LIMIT);
        x.move(2, 0, -1);
        x.collect(2);
        check.due("what heap 2 gave back", x.room(1), 3);
        check.due("heap 1 takes", x.make(1, 1, 16, 1), 0);
        check.due("the kernel heap takes", x.make(0, 1, 16, 1), 0);
        check.due("pages", x.pages(1) + x.pages(2) + x.pages(KERNEL), 5);
    }

    @Sentence(promise = {5, 12}, words = "every process has a heap of its own, which is collected by itself")
    static void heapsAreCollectedByThemselves(Check check) {
        for (int p = 0; p < 8; p++) {
            ProcessHeaps x = Scenes.EIGHT.make();
            for (int each = 0; each < 8; each++) {
                Scenes.makeGarbage(x, each, 1 + each % 3, 1);
            }
            check.due("collect(" + p + ")", x.collect(p), 1 + p % 3);
            for (int other = 0; other < 8; other++) {
                int garbage = other == p ? 0 : 1 + other % 3;
                check.due("objects(" + other + ") after collect(" + p + ")", x.objects(other), 1 + garbage);
                check.due("tag(" + other + ", 0)", x.tag(other, 0), 10 + other);
                check.due("collect(" + other + ") after collect(" + p + ")", x.collect(other), garbage);
            }
        }
    }

    @Sentence(promise = {2, 5, 17, 18}, words = "under a tree of limits that says who may take how much")
    static void limitsAreATree(Check check) {
        ProcessHeaps x = new ProcessHeaps(12);
        x.spawn(0, 6, false);
        x.spawn(1, 4, false);
        x.spawn(1, 4, false);
        x.spawn(0, 5, true);
        Scenes.makeChain(x, 2, 4, 16);
        check.due("node 2 by its own limit", x.room(2), 0);
        check.due("node 3 by that of its parent", x.room(3), 2);
        Scenes.makeChain(x, 3, 2, 16);
        check.due("heap 3 has what it may", x.pages(3), 2);
        check.due("no page more", x.make(3, 1, 16, 1), LIMIT);
        check.due("nor for the parent", x.make(1, 1, 16, 1), LIMIT);
        check.due("the root has what it has not promised away", x.room(0), 1);
        check.due("and takes it", x.make(0, 0, 16, 1), 0);
        check.due("but no more", x.make(0, 1, 16, 1), LIMIT);
        check.due("what was promised is there", x.room(4), 5);
        Scenes.makeChain(x, 4, 5, 16);
        check.due("and is taken", x.pages(4), 5);
        check.due("all pages", x.pages(0) + x.pages(2) + x.pages(3) + x.pages(4), 12);
    }

    @Sentence(promise = {5, 14, 17}, words = "there is a kernel heap")
    static void kernelHeapIsOne(Check check) {
        ProcessHeaps x = Scenes.EIGHT.make();
        for (int p = 0; p < 8; p++) {
            x.mode(p, true);
            check.due("make by " + p, x.make(p, 1, 2, 80 + p), 0);
            check.due("where(" + p + ", 1)", x.where(p, 1), KERNEL);
            check.due("it is the same page", x.pages(KERNEL), 1);
        }
        check.due("objects(8)", x.objects(KERNEL), 8);
        check.due("node 0 pays for it, a page of its own and those of 7 soft nodes", x.use(0), 9);
    }

    @Sentence(promise = {10, 11, 17},
            words = "there are shared heaps that are frozen and charged in full to everybody who shares them.")
    static void sharedHeapsAreChargedInFull(Check check) {
        ProcessHeaps x = Scenes.withFrozen(24, 2).make();
        for (int p = 2; p < 8; p++) {
            x.spawn(1, 3, false);
            check.due("use(" + p + ")", x.use(p), 0);
            x.lookup(p, 9, 0);
            check.due("use(" + p + ") of one that shares it", x.use(p), 2);
            check.due("use(1) of itself and its children", x.use(1), 2 * p);
        }
        check.due("the pages are there once", x.pages(9), 2);
    }

    @Sentence(promise = {5, 6, 14},
            words = "it has a size of 1 .. 16 cells, a tag (an int) and three FIELDS 0 .. 2, each empty or naming an object.")
    static void sizeIsWhatAnObjectTakes(Check check) {
        for (int size = 1; size < 16; size++) {
            ProcessHeaps x = new ProcessHeaps(8);
            x.make(0, 0, size, size);
            x.make(0, 1, 16 - size, 1);
            check.due("the rest of the page is " + (16 - size), x.pages(0), 1);
            x.make(0, 2, 1, 1);
            check.due("then it is full", x.pages(0), 2);
            x.move(0, 0, -1);
            x.collect(0);
            x.make(0, 0, size, size);
            check.due("freed are " + size, x.pages(0), 2);
            x.move(0, 0, -1);
            x.collect(0);
            x.make(0, 0, 16, size);
            check.due("and no more than that", x.pages(0), 3);
        }
    }

    /** Now and then an argument that no call takes. */
    private static int argument(Random random) {
        int kind = random.nextInt(40);
        return kind == 0 ? random.nextInt() : kind == 1 ? -1 : random.nextInt(14);
    }

    private static int call(ProcessHeaps x, Random random) {
        int a = argument(random);
        int b = argument(random) % 5;
        int c = argument(random);
        int d = argument(random) % 5;
        boolean flag = random.nextBoolean();
        switch (random.nextInt(24)) {
            case 0: return x.spawn(a, c, flag);
            case 1: return x.kill(a) && flag ? 1 : 0;
            case 2: return x.mode(a % 8, flag) ? 1 : 0;
            case 3: return x.store(a % 8, b, c, d);
            case 4: return x.load(a % 8, b, d, c);
            case 5: return x.move(a % 8, b, d) ? 1 : 0;
            case 6: return x.begin(a);
            case 7: return x.freeze(a, b);
            case 8: return x.lookup(a, c, b);
            case 9: return x.collect(a);
            case 10: return x.state(a);
            case 11: return x.pages(a);
            case 12: return x.objects(a);
            case 13: return x.items(a);
            case 14: return x.use(a);
            case 15: return x.room(a);
            case 16: return x.shares(a, c) ? 1 : 0;
            case 17: return x.where(a, b);
            case 18: return x.tag(a, b);
            default: return x.make(a % 8, b, c, d);
        }
    }

    @Sentence(promise = {1, 2, 3, 4, 5, 6, 7, 8, 9, 10, 11, 12, 13, 14, 15, 16, 17, 18, 19, 20, 21},
            words = "No call may ever throw or fail to end, for any arguments in any state")
    static void noCallThrowsThoughItsAnswerIsFree(Check check) {
        for (int seed = 0; seed < 200; seed++) {
            Random random = new Random(seed);
            ProcessHeaps x = new ProcessHeaps(seed);
            for (int i = 0; i < 8 * CALLS; i++) {
                call(x, random);
            }
        }
        check.due("all calls have ended", true, true);
    }

    @Sentence(promise = {1, 2, 3, 4, 5, 6, 7, 8, 9, 10, 11, 12, 13, 14, 15, 16, 17, 18, 19, 20, 21},
            words = "the same calls always give the same answers.")
    static void objectsDoNotTouchOneAnother(Check check) {
        for (int seed = 0; seed < 200; seed++) {
            ProcessHeaps[] some = {new ProcessHeaps(seed), new ProcessHeaps(seed + 1), new ProcessHeaps(seed)};
            Random[] randoms = {new Random(seed), new Random(seed + 1), new Random(seed)};
            for (int i = 0; i < CALLS; i++) {
                int first = call(some[0], randoms[0]);
                call(some[1], randoms[1]);
                check.due("call " + i + " of run " + seed + ", asked again", call(some[2], randoms[2]), first);
            }
        }
    }

    public static void main(String[] args) throws Exception {
        Tests.run(WholeTest.class);
    }
}
