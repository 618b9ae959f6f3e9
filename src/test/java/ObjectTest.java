/** Promises 5 to 8, 14, 15, 20 and 21: make, store, load, move, pages, objects, where, tag. */
public final class ObjectTest {
    private static final int BAD = ProcessHeaps.BAD;
    private static final int EMPTY = ProcessHeaps.EMPTY;
    private static final int FOREIGN = ProcessHeaps.FOREIGN;
    private static final int FULL = ProcessHeaps.FULL;
    private static final int LIMIT = ProcessHeaps.LIMIT;
    private static final int KERNEL = 8;
    private static final Check CHECK = new Check();

    private ObjectTest() {
    }

    private static ProcessHeaps withDeadOne() {
        ProcessHeaps x = new ProcessHeaps(8);
        x.spawn(0, 8, false);
        x.make(1, 0, 1, 1);
        x.kill(1);
        return x;
    }

    private static void makeWrongInputs() {
        ProcessHeaps x = withDeadOne();
        CHECK.due("5: process -1", x.make(-1, 0, 1, 1), BAD);
        CHECK.due("5: process 8", x.make(8, 0, 1, 1), BAD);
        CHECK.due("5: not made", x.make(2, 0, 1, 1), BAD);
        CHECK.due("5: dead", x.make(1, 0, 1, 1), BAD);
        CHECK.due("5: register -1", x.make(0, -1, 1, 1), BAD);
        CHECK.due("5: register 4", x.make(0, 4, 1, 1), BAD);
        CHECK.due("5: size 0", x.make(0, 0, 0, 1), BAD);
        CHECK.due("5: size 17", x.make(0, 0, 17, 1), BAD);
        CHECK.due("5: nothing was made", x.objects(0), 0);
    }

    private static void makeTakesFirstPageWithRoom() {
        ProcessHeaps x = new ProcessHeaps(8);
        CHECK.due("5: 10 cells", x.make(0, 0, 10, 1), 0);
        CHECK.due("5: 7 more need a new page", x.make(0, 1, 7, 2), 0);
        CHECK.due("14: two pages", x.pages(0), 2);
        CHECK.due("5: 6 fill the first page", x.make(0, 2, 6, 3), 0);
        CHECK.due("5: 9 fill the second page", x.make(0, 3, 9, 4), 0);
        CHECK.due("14: still two pages", x.pages(0), 2);
        x.move(0, 0, -1);
        x.move(0, 3, -1);
        CHECK.due("12: two of them are freed", x.collect(0), 2);
        x.make(0, 0, 4, 5);
        x.make(0, 3, 9, 6);
        CHECK.due("5: 4 went into the first page, so 9 fit in the second", x.pages(0), 2);
        CHECK.due("15: four objects", x.objects(0), 4);
        CHECK.due("5: 7 fit in neither", x.make(0, 0, 7, 7), 0);
        CHECK.due("14: three pages", x.pages(0), 3);
    }

    private static void newPageComesLast() {
        ProcessHeaps x = new ProcessHeaps(4);
        x.make(0, 0, 16, 1);
        x.make(0, 1, 12, 2);
        x.move(0, 0, -1);
        x.collect(0);
        x.make(0, 0, 8, 3);
        x.make(0, 2, 4, 4);
        CHECK.due("5: 4 filled the older page, so 8 fit in the newer", x.make(0, 3, 8, 5), 0);
        CHECK.due("14: two pages", x.pages(0), 2);
    }

    private static void makeIsFull() {
        ProcessHeaps x = new ProcessHeaps(4);
        x.spawn(0, 1, false);
        for (int i = 0; i < 60; i++) {
            CHECK.due("5: object " + i, x.make(0, 0, 1, i), 0);
        }
        CHECK.due("5: object 60", x.make(0, 0, 1, 60), FULL);
        CHECK.due("5: of another process too", x.make(1, 0, 1, 60), FULL);
        CHECK.due("5: FULL stands before LIMIT", x.make(0, 0, 16, 60), FULL);
        CHECK.due("5: BAD stands before FULL", x.make(0, 0, 0, 60), BAD);
        CHECK.due("5: no collection was made", x.objects(0), 60);
        CHECK.due("5: the register is as it was", x.tag(0, 0), 59);
        CHECK.due("12: 59 are freed", x.collect(0), 59);
        CHECK.due("5: there is room again", x.make(0, 0, 1, 60), 0);
    }

    private static void makeCollectsForRoom() {
        ProcessHeaps x = new ProcessHeaps(8);
        x.spawn(0, 2, false);
        x.make(1, 0, 16, 1);
        x.make(1, 1, 16, 2);
        CHECK.due("5: all are held, also the one in the register", x.make(1, 1, 16, 3), LIMIT);
        CHECK.due("5: the register is as it was", x.tag(1, 1), 2);
        x.move(1, 0, -1);
        CHECK.due("5: one is freed", x.make(1, 2, 16, 4), 0);
        CHECK.due("15: two objects", x.objects(1), 2);
        x.move(1, 2, -1);
        x.make(1, 3, 4, 5);
        x.make(1, 2, 12, 6);
        x.move(1, 3, -1);
        CHECK.due("5: 8 cells are too many after the collection too", x.make(1, 0, 8, 7), LIMIT);
        CHECK.due("5: LIMIT leaves what the collection did", x.objects(1), 2);
        CHECK.due("5: 4 cells go into the page that the collection gave room", x.make(1, 0, 4, 8), 0);
        CHECK.due("14: two pages", x.pages(1), 2);
    }

    private static void makeInKernelMode() {
        ProcessHeaps x = new ProcessHeaps(4);
        x.spawn(0, 1, true);
        x.mode(1, true);
        for (int i = 0; i < 3; i++) {
            CHECK.due("5: in kernel mode node 0 pays", x.make(1, i, 16, i), 0);
        }
        CHECK.due("17: not the node of the process", x.use(1), 0);
        CHECK.due("20: in the kernel heap", x.where(1, 2), KERNEL);
        CHECK.due("5: node 0 cannot pay", x.make(1, 3, 1, 9), LIMIT);
        x.move(1, 1, -1);
        CHECK.due("5: the kernel heap is collected", x.make(1, 3, 16, 9), 0);
        CHECK.due("14: three pages", x.pages(KERNEL), 3);
        x.mode(1, false);
        CHECK.due("5: in user mode the own heap", x.make(1, 1, 16, 5), 0);
        CHECK.due("20: it is there", x.where(1, 1), 1);
        x.move(1, 0, -1);
        CHECK.due("5: in user mode the own heap is collected", x.make(1, 0, 16, 5), LIMIT);
        CHECK.due("5: not the kernel's", x.objects(KERNEL), 3);
    }

    private static void makeHasEmptyFields() {
        ProcessHeaps x = new ProcessHeaps(4);
        x.make(0, 0, 1, Integer.MIN_VALUE);
        CHECK.due("21: any tag", x.tag(0, 0), Integer.MIN_VALUE);
        for (int f = 0; f < 3; f++) {
            x.move(0, 1, 0);
            CHECK.due("7: load of an empty field", x.load(0, 1, 0, f), 0);
            CHECK.due("5: field " + f + " is empty", x.where(0, 1), EMPTY);
        }
    }

    private static void storeWrongInputs() {
        ProcessHeaps x = withDeadOne();
        CHECK.due("6: process -1", x.store(-1, 0, 0, 0), BAD);
        CHECK.due("6: process 8", x.store(8, 0, 0, 0), BAD);
        CHECK.due("6: dead", x.store(1, 0, 0, 0), BAD);
        CHECK.due("6: register r -1, before EMPTY", x.store(0, -1, 0, 0), BAD);
        CHECK.due("6: register r 4", x.store(0, 4, 0, 0), BAD);
        CHECK.due("6: register q -1, before EMPTY", x.store(0, 0, 0, -1), BAD);
        CHECK.due("6: register q 4", x.store(0, 0, 0, 4), BAD);
        CHECK.due("6: field -1", x.store(0, 0, -1, 0), BAD);
        CHECK.due("6: field 3", x.store(0, 0, 3, 0), BAD);
        CHECK.due("6: register r is empty", x.store(0, 0, 0, 1), EMPTY);
    }

    private static void storeAndLoad() {
        ProcessHeaps x = new ProcessHeaps(4);
        x.make(0, 0, 1, 10);
        for (int f = 0; f < 3; f++) {
            x.make(0, 1, 1, 20 + f);
            CHECK.due("6: store", x.store(0, 0, f, 1), 0);
        }
        for (int f = 0; f < 3; f++) {
            CHECK.due("7: load", x.load(0, 2, 0, f), 0);
            CHECK.due("7: what was stored", x.tag(0, 2), 20 + f);
        }
        CHECK.due("6: an object may name itself", x.store(0, 0, 0, 0), 0);
        CHECK.due("7: into the same register", x.load(0, 0, 0, 1), 0);
        CHECK.due("7: it is there", x.tag(0, 0), 21);
        CHECK.due("6: empty", x.store(0, 1, 0, 3), 0);
        CHECK.due("16: no exit item within a heap", x.items(0), 0);
        x.store(0, 1, 1, 0);
        x.store(0, 1, 1, 3);
        CHECK.due("7: load of an emptied field", x.load(0, 2, 1, 1), 0);
        CHECK.due("6: the field became empty", x.where(0, 2), EMPTY);
    }

    /** Process 1 gets register 0 own, 1 kernel, 2 frozen, 3 of the heap that it builds; it is left in user mode. */
    private static ProcessHeaps withAllKinds() {
        ProcessHeaps x = new ProcessHeaps(24);
        x.spawn(0, 12, false);
        x.make(1, 0, 1, 100);
        x.begin(1);
        x.make(1, 2, 1, 102);
        x.freeze(1, 2);
        x.begin(1);
        x.make(1, 3, 1, 103);
        x.mode(1, true);
        x.make(1, 1, 1, 101);
        x.mode(1, false);
        return x;
    }

    private static void storeForeign() {
        int ok = 0;
        int[][] inUserMode = {
            {ok, ok, ok, FOREIGN}, {FOREIGN, FOREIGN, FOREIGN, FOREIGN},
            {FOREIGN, FOREIGN, FOREIGN, FOREIGN}, {FOREIGN, FOREIGN, FOREIGN, ok}};
        int[][] inKernelMode = {
            {ok, ok, ok, FOREIGN}, {ok, ok, FOREIGN, FOREIGN},
            {FOREIGN, FOREIGN, FOREIGN, FOREIGN}, {FOREIGN, FOREIGN, FOREIGN, ok}};
        for (int r = 0; r < 4; r++) {
            for (int q = 0; q < 4; q++) {
                ProcessHeaps x = withAllKinds();
                CHECK.due("6: in user mode, " + r + " names " + q, x.store(1, r, 0, q), inUserMode[r][q]);
                x.mode(1, true);
                CHECK.due("6: in kernel mode, " + r + " names " + q, x.store(1, r, 0, q), inKernelMode[r][q]);
                x.load(1, r, r, 0);
                int left = inKernelMode[r][q] == ok ? 100 + q : 0;
                CHECK.due("6: the field of " + r + " after " + q, x.tag(1, r), left);
            }
        }
    }

    private static void storeOfNothing() {
        ProcessHeaps x = withAllKinds();
        x.move(1, 3, -1);
        CHECK.due("6: nothing into an own object", x.store(1, 0, 0, 3), 0);
        CHECK.due("6: nothing into a kernel object, in user mode", x.store(1, 1, 0, 3), FOREIGN);
        CHECK.due("6: nothing into a frozen object", x.store(1, 2, 0, 3), FOREIGN);
        x.mode(1, true);
        CHECK.due("6: nothing into a kernel object, in kernel mode", x.store(1, 1, 0, 3), 0);
    }

    private static void loadWrongInputs() {
        ProcessHeaps x = withDeadOne();
        CHECK.due("7: process -1", x.load(-1, 0, 0, 0), BAD);
        CHECK.due("7: process 8", x.load(8, 0, 0, 0), BAD);
        CHECK.due("7: dead", x.load(1, 0, 0, 0), BAD);
        CHECK.due("7: register r -1, before EMPTY", x.load(0, -1, 0, 0), BAD);
        CHECK.due("7: register r 4", x.load(0, 4, 0, 0), BAD);
        CHECK.due("7: register q -1, before EMPTY", x.load(0, 0, -1, 0), BAD);
        CHECK.due("7: register q 4", x.load(0, 0, 4, 0), BAD);
        CHECK.due("7: field -1", x.load(0, 0, 0, -1), BAD);
        CHECK.due("7: field 3", x.load(0, 0, 0, 3), BAD);
        CHECK.due("7: register q is empty", x.load(0, 0, 1, 0), EMPTY);
    }

    /**
     * FOREIGN is never due from load: a process gets at no kernel object but those that it made itself, and it
     * shares every frozen heap that an object within its reach names. So only the answers that are due are asked.
     */
    private static void loadFromOtherHeaps() {
        ProcessHeaps x = withAllKinds();
        x.mode(1, true);
        x.store(1, 0, 0, 1);
        x.store(1, 0, 1, 2);
        x.store(1, 1, 0, 0);
        x.mode(1, false);
        CHECK.due("7: a kernel object from an own one", x.load(1, 3, 0, 0), 0);
        CHECK.due("7: it is there", x.tag(1, 3), 101);
        CHECK.due("7: a frozen one from an own one", x.load(1, 3, 0, 1), 0);
        CHECK.due("7: it is there", x.tag(1, 3), 102);
        CHECK.due("7: an own one from a kernel one, in user mode", x.load(1, 3, 1, 0), 0);
        CHECK.due("7: it is there", x.tag(1, 3), 100);
        x.move(1, 2, -1);
        x.collect(1);
        CHECK.due("7: a frozen one after a collection", x.load(1, 2, 3, 1), 0);
        CHECK.due("7: it is there", x.where(1, 2), 9);
    }

    private static void move() {
        ProcessHeaps x = withDeadOne();
        x.make(0, 0, 1, 7);
        CHECK.due("8: process -1", x.move(-1, 0, 0), false);
        CHECK.due("8: process 8", x.move(8, 0, 0), false);
        CHECK.due("8: dead", x.move(1, 0, -1), false);
        CHECK.due("8: register r -1", x.move(0, -1, 0), false);
        CHECK.due("8: register r 4", x.move(0, 4, 0), false);
        CHECK.due("8: register q -2", x.move(0, 0, -2), false);
        CHECK.due("8: register q 4", x.move(0, 0, 4), false);
        CHECK.due("8: to register 3", x.move(0, 3, 0), true);
        CHECK.due("8: it is there", x.tag(0, 3), 7);
        CHECK.due("8: and where it was", x.tag(0, 0), 7);
        CHECK.due("8: from an empty one", x.move(0, 3, 1), true);
        CHECK.due("8: it is empty", x.where(0, 3), EMPTY);
        CHECK.due("8: to itself", x.move(0, 0, 0), true);
        CHECK.due("8: as it was", x.tag(0, 0), 7);
        CHECK.due("8: from -1", x.move(0, 0, -1), true);
        CHECK.due("8: it is empty too", x.where(0, 0), EMPTY);
    }

    private static void counts() {
        ProcessHeaps x = withAllKinds();
        int[] wrong = {Integer.MIN_VALUE, -1, 13, 32, 33, 41, Integer.MAX_VALUE};
        for (int h : wrong) {
            CHECK.due("14: heap " + h, x.pages(h), 0);
            CHECK.due("15: heap " + h, x.objects(h), 0);
            CHECK.due("16: heap " + h, x.items(h), 0);
        }
        int[] kinds = {1, KERNEL, 9, 10};
        for (int h : kinds) {
            CHECK.due("14: heap " + h, x.pages(h), 1);
            CHECK.due("15: heap " + h, x.objects(h), 1);
        }
        CHECK.due("14: heap 0", x.pages(0), 0);
        CHECK.due("15: heap 11", x.objects(11), 0);
    }

    private static void whereAndTag() {
        ProcessHeaps x = withAllKinds();
        int[] heaps = {1, KERNEL, 9, 10};
        for (int r = 0; r < 4; r++) {
            CHECK.due("20: register " + r, x.where(1, r), heaps[r]);
            CHECK.due("21: register " + r, x.tag(1, r), 100 + r);
            CHECK.due("20: an empty register", x.where(0, r), EMPTY);
            CHECK.due("21: an empty register", x.tag(0, r), 0);
        }
        x.kill(1);
        int[][] wrong = {{-1, 0}, {8, 0}, {2, 0}, {1, 0}, {0, -1}, {0, 4}, {1, 4}};
        for (int[] row : wrong) {
            CHECK.due("20: process " + row[0] + ", register " + row[1], x.where(row[0], row[1]), BAD);
            CHECK.due("21: process " + row[0] + ", register " + row[1], x.tag(row[0], row[1]), 0);
        }
    }

    public static void main(String[] args) {
        makeWrongInputs();
        makeTakesFirstPageWithRoom();
        newPageComesLast();
        makeIsFull();
        makeCollectsForRoom();
        makeInKernelMode();
        makeHasEmptyFields();
        storeWrongInputs();
        storeAndLoad();
        storeForeign();
        storeOfNothing();
        loadWrongInputs();
        loadFromOtherHeaps();
        move();
        counts();
        whereAndTag();
        CHECK.finish();
    }
}
