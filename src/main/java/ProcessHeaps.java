import java.util.ArrayList;

/**
 * Processes that share one store of pages: every process has a heap of its own, which is collected
 * by itself, under a tree of limits; there is a kernel heap, and there are shared heaps that are
 * frozen and charged in full to everybody who shares them.
 */
public final class ProcessHeaps {
    /** No such thing, or it cannot be done now. */
    public static final int BAD = -1;
    /** A register that is needed is empty. */
    public static final int EMPTY = -2;
    /** An object of a heap that may not be named there. */
    public static final int FOREIGN = -3;
    /** There are as many as there can be. */
    public static final int FULL = -4;
    /** A limit would be broken. */
    public static final int LIMIT = -5;

    private static final int DONE = 0;
    private static final int NONE = -1;

    private static final int PROCESSES = 8;
    private static final int REGISTERS = 4;
    private static final int FIELDS = 3;
    private static final int KERNEL = 8;
    private static final int FIRST_SHARED = 9;
    private static final int HEAPS = 13;
    private static final int PAGE_CELLS = 16;
    private static final int MOST_OBJECTS = 60;
    private static final int LEAST_STORE = 4;
    private static final int LARGEST_LIMIT = 24;

    private static final int NOT_MADE = 0;
    private static final int USER_MODE = 1;
    private static final int KERNEL_MODE = 2;
    private static final int DOOMED = 3;
    private static final int DEAD = 4;

    private final Memory memory = new Memory();
    private final Collector collector = new Collector();
    private final Limits limits = new Limits();
    private final HeapProcess[] processes = new HeapProcess[PROCESSES];
    /** The head of each frozen heap, at its heap number; null while the heap is not a frozen one. */
    private final HeapObject[] heads = new HeapObject[HEAPS];
    private int made = 1;
    private int nextShared = FIRST_SHARED;

    public ProcessHeaps(int pages) {
        int limit = Math.max(LEAST_STORE, Math.min(LARGEST_LIMIT, pages));
        processes[0] = new HeapProcess(0, NONE, limit, true);
    }

    public int spawn(int p, int limit, boolean hard) {
        if (livingProcess(p) == null || limit < 1 || limit > LARGEST_LIMIT) {
            return BAD;
        }
        if (made >= PROCESSES) {
            return FULL;
        }
        if (hard && !canPay(p, limit)) {
            return LIMIT;
        }
        int number = made;
        processes[number] = new HeapProcess(number, p, limit, hard);
        made++;
        return number;
    }

    public boolean kill(int p) {
        HeapProcess process = livingProcess(p);
        if (process == null || p == 0 || process.state == DOOMED) {
            return false;
        }
        if (process.isInKernelMode()) {
            process.state = DOOMED;
        } else {
            die(process);
        }
        return true;
    }

    public boolean mode(int p, boolean kernel) {
        HeapProcess process = livingProcess(p);
        if (process == null || process.isInKernelMode() == kernel) {
            return false;
        }
        if (process.state == DOOMED) {
            die(process);
        } else {
            process.state = kernel ? KERNEL_MODE : USER_MODE;
        }
        return true;
    }

    public int make(int p, int r, int size, int tag) {
        HeapProcess process = livingProcess(p);
        if (process == null || !isRegister(r) || size < 1 || size > PAGE_CELLS) {
            return BAD;
        }
        if (memory.objects.size() >= MOST_OBJECTS) {
            return FULL;
        }
        Page page = pageForMaking(process, size);
        if (page == null) {
            collectHeap(process.isInKernelMode() ? KERNEL : p);
            page = pageForMaking(process, size);
        }
        if (page == null) {
            return LIMIT;
        }
        process.registers[r] = memory.putObject(page, size, tag);
        return DONE;
    }

    public int store(int p, int r, int f, int q) {
        HeapProcess process = livingProcess(p);
        if (process == null || !isRegister(r) || !isRegister(q) || !isField(f)) {
            return BAD;
        }
        HeapObject holder = process.registers[r];
        if (holder == null) {
            return EMPTY;
        }
        HeapObject named = process.registers[q];
        if (!mayChange(process, holder) || !mayName(process, holder, named)) {
            return FOREIGN;
        }
        holder.setField(f, named);
        return DONE;
    }

    public int load(int p, int r, int q, int f) {
        HeapProcess process = livingProcess(p);
        if (process == null || !isRegister(r) || !isRegister(q) || !isField(f)) {
            return BAD;
        }
        HeapObject holder = process.registers[q];
        if (holder == null) {
            return EMPTY;
        }
        HeapObject named = holder.fields[f];
        if (!mayHold(process, named)) {
            return FOREIGN;
        }
        process.registers[r] = named;
        return DONE;
    }

    public boolean move(int p, int r, int q) {
        HeapProcess process = livingProcess(p);
        if (process == null || !isRegister(r) || !(q == NONE || isRegister(q))) {
            return false;
        }
        process.registers[r] = q == NONE ? null : process.registers[q];
        return true;
    }

    public int begin(int p) {
        HeapProcess process = livingProcess(p);
        if (process == null || process.building != NONE) {
            return BAD;
        }
        if (nextShared >= HEAPS) {
            return FULL;
        }
        process.building = nextShared;
        nextShared++;
        return process.building;
    }

    public int freeze(int p, int r) {
        HeapProcess process = livingProcess(p);
        if (process == null || !isRegister(r) || process.building == NONE) {
            return BAD;
        }
        int heap = process.building;
        HeapObject head = process.registers[r];
        if (head == null || head.heapNumber() != heap) {
            return BAD;
        }
        heads[heap] = head;
        process.building = NONE;
        memory.endSinglePayment(heap);
        process.addCharge(heap);
        return heap;
    }

    public int lookup(int p, int h, int r) {
        HeapProcess process = livingProcess(p);
        if (process == null || !isRegister(r) || !isFrozen(h)) {
            return BAD;
        }
        if (!process.isCharged(h)) {
            int needed = memory.countPages(h);
            if (!canPay(p, needed)) {
                collectHeap(p);
            }
            if (!canPay(p, needed)) {
                return LIMIT;
            }
            process.addCharge(h);
        }
        process.registers[r] = heads[h];
        return DONE;
    }

    public int collect(int h) {
        if (h != KERNEL && livingProcess(h) == null) {
            return BAD;
        }
        return collectHeap(h);
    }

    public int state(int p) {
        return isMade(p) ? processes[p].state : NOT_MADE;
    }

    public int pages(int h) {
        return memory.countPages(h);
    }

    public int objects(int h) {
        return memory.countObjects(h);
    }

    public int items(int h) {
        return isHeap(h) ? memory.countItems(h) : 0;
    }

    public int use(int p) {
        limits.reckon(processes, memory);
        return isMade(p) && limits.exists[p] ? limits.used[p] : BAD;
    }

    public int room(int p) {
        limits.reckon(processes, memory);
        return isMade(p) && limits.exists[p] ? limits.spare[p] : BAD;
    }

    public boolean shares(int p, int h) {
        HeapProcess process = livingProcess(p);
        return process != null && isHeap(h) && process.isCharged(h);
    }

    public int where(int p, int r) {
        HeapProcess process = livingProcess(p);
        if (process == null || !isRegister(r)) {
            return BAD;
        }
        HeapObject held = process.registers[r];
        return held == null ? EMPTY : held.heapNumber();
    }

    public int tag(int p, int r) {
        HeapProcess process = livingProcess(p);
        if (process == null || !isRegister(r)) {
            return 0;
        }
        HeapObject held = process.registers[r];
        return held == null ? 0 : held.tag;
    }

    private static boolean isRegister(int r) {
        return r >= 0 && r < REGISTERS;
    }

    private static boolean isField(int f) {
        return f >= 0 && f < FIELDS;
    }

    private static boolean isHeap(int h) {
        return h >= 0 && h < HEAPS;
    }

    private boolean isFrozen(int h) {
        return isHeap(h) && heads[h] != null;
    }

    private boolean isMade(int p) {
        return p >= 0 && p < PROCESSES && processes[p] != null;
    }

    /** Null if p is not the number of a living process. */
    private HeapProcess livingProcess(int p) {
        return isMade(p) && processes[p].isLiving() ? processes[p] : null;
    }

    private boolean canPay(int node, int pages) {
        limits.reckon(processes, memory);
        return limits.spare[node] >= pages;
    }

    /** Null if a new page is needed that cannot be paid for. */
    private Page pageForMaking(HeapProcess process, int size) {
        int heap = process.heapForMaking();
        Page page = memory.findPage(heap, size);
        if (page != null) {
            return page;
        }
        int payer = heap == KERNEL ? 0 : process.number;
        return canPay(payer, 1) ? memory.addPage(heap, payer) : null;
    }

    private boolean mayChange(HeapProcess process, HeapObject holder) {
        int heap = holder.heapNumber();
        return heap == KERNEL ? process.isInKernelMode() : !isFrozen(heap);
    }

    private boolean mayName(HeapProcess process, HeapObject holder, HeapObject named) {
        if (named == null) {
            return true;
        }
        int from = holder.heapNumber();
        int to = named.heapNumber();
        if (from == to) {
            return true;
        }
        if (from == KERNEL) {
            return to == process.number;
        }
        return from == process.number && (to == KERNEL || isFrozen(to));
    }

    private boolean mayHold(HeapProcess process, HeapObject named) {
        if (named == null) {
            return true;
        }
        int heap = named.heapNumber();
        if (heap < PROCESSES) {
            return heap == process.number;
        }
        return !isFrozen(heap) || process.isCharged(heap);
    }

    private int collectHeap(int heap) {
        int freed = collector.run(heap, memory, processes);
        if (heap == KERNEL) {
            dropChargesOfDead();
        } else {
            dropUnusedCharges(processes[heap]);
        }
        dropGoneHeaps();
        return freed;
    }

    private void die(HeapProcess process) {
        process.state = DEAD;
        for (int r = 0; r < REGISTERS; r++) {
            process.registers[r] = null;
        }
        dropUnusedCharges(process);
        memory.mergeIntoKernel(process.number);
        if (process.building != NONE) {
            memory.mergeIntoKernel(process.building);
            process.building = NONE;
        }
        memory.handItemsToKernel(process.number);
        dropGoneHeaps();
    }

    private void dropUnusedCharges(HeapProcess process) {
        for (int h = FIRST_SHARED; h < HEAPS; h++) {
            if (!process.holdsObjectOf(h) && !memory.hasItemInto(process.number, h)) {
                process.dropCharge(h);
            }
        }
    }

    private void dropChargesOfDead() {
        for (int h = FIRST_SHARED; h < HEAPS; h++) {
            if (!memory.hasItemInto(KERNEL, h)) {
                endPaymentOfDead(h);
            }
        }
    }

    private void endPaymentOfDead(int heap) {
        for (int p = 0; p < made; p++) {
            if (!processes[p].isLiving()) {
                processes[p].dropCharge(heap);
            }
        }
    }

    private void dropGoneHeaps() {
        for (int h = FIRST_SHARED; h < HEAPS; h++) {
            if (isFrozen(h) && !isSharedByLiving(h) && !memory.hasItemInto(KERNEL, h)) {
                heads[h] = null;
                memory.freeUnreached(h);
                endPaymentOfDead(h);
            }
        }
    }

    private boolean isSharedByLiving(int heap) {
        for (int p = 0; p < made; p++) {
            if (processes[p].isLiving() && processes[p].isCharged(heap)) {
                return true;
            }
        }
        return false;
    }

    /** A process together with its node in the tree of limits, which may outlive it. */
    private static final class HeapProcess {
        final int number;
        final int parent;
        final int limit;
        final boolean hard;
        final HeapObject[] registers = new HeapObject[REGISTERS];
        int state = USER_MODE;
        int building = NONE;
        /** Bit h: the node pays for frozen heap h; while the process lives, that is: it shares h. */
        private int charges = 0;

        HeapProcess(int number, int parent, int limit, boolean hard) {
            this.number = number;
            this.parent = parent;
            this.limit = limit;
            this.hard = hard;
        }

        boolean isLiving() {
            return state != DEAD;
        }

        boolean isInKernelMode() {
            return state == KERNEL_MODE || state == DOOMED;
        }

        boolean isCharged(int heap) {
            return (charges & 1 << heap) != 0;
        }

        void addCharge(int heap) {
            charges |= 1 << heap;
        }

        void dropCharge(int heap) {
            charges &= ~(1 << heap);
        }

        int heapForMaking() {
            if (isInKernelMode()) {
                return KERNEL;
            }
            return building == NONE ? number : building;
        }

        boolean holdsObjectOf(int heap) {
            for (int r = 0; r < REGISTERS; r++) {
                HeapObject held = registers[r];
                if (held != null && held.heapNumber() == heap) {
                    return true;
                }
            }
            return false;
        }
    }

    private static final class Page {
        int heap;
        /** NONE in a frozen heap, for which nodes pay as a whole. */
        int payer;
        int freeCells = PAGE_CELLS;

        Page(int heap, int payer) {
            this.heap = heap;
            this.payer = payer;
        }
    }

    private static final class HeapObject {
        final Page page;
        final int size;
        final int tag;
        final HeapObject[] fields = new HeapObject[FIELDS];
        boolean reached = false;
        /** Bit h: heap h has an exit item for this object. */
        private int items = 0;

        HeapObject(Page page, int size, int tag) {
            this.page = page;
            this.size = size;
            this.tag = tag;
        }

        int heapNumber() {
            return page.heap;
        }

        void setField(int f, HeapObject named) {
            fields[f] = named;
            addItemFor(named);
        }

        void addItemsForFields() {
            for (int f = 0; f < FIELDS; f++) {
                addItemFor(fields[f]);
            }
        }

        private void addItemFor(HeapObject named) {
            if (named != null && named.heapNumber() != heapNumber()) {
                named.addItem(heapNumber());
            }
        }

        boolean hasAnyItem() {
            return items != 0;
        }

        boolean hasItem(int heap) {
            return (items & 1 << heap) != 0;
        }

        void addItem(int heap) {
            items |= 1 << heap;
        }

        void dropItem(int heap) {
            items &= ~(1 << heap);
        }
    }

    /** All pages, those of each heap in their order, and all objects that exist. */
    private static final class Memory {
        final ArrayList<Page> pages = new ArrayList<>();
        final ArrayList<HeapObject> objects = new ArrayList<>();

        int countPages(int heap) {
            int count = 0;
            for (int i = 0; i < pages.size(); i++) {
                if (pages.get(i).heap == heap) {
                    count++;
                }
            }
            return count;
        }

        int countPaidPages(HeapProcess process) {
            int count = 0;
            for (int i = 0; i < pages.size(); i++) {
                Page page = pages.get(i);
                if (page.payer == process.number || process.isCharged(page.heap)) {
                    count++;
                }
            }
            return count;
        }

        int countObjects(int heap) {
            int count = 0;
            for (int i = 0; i < objects.size(); i++) {
                if (objects.get(i).heapNumber() == heap) {
                    count++;
                }
            }
            return count;
        }

        int countItems(int heap) {
            int count = 0;
            for (int i = 0; i < objects.size(); i++) {
                if (objects.get(i).hasItem(heap)) {
                    count++;
                }
            }
            return count;
        }

        boolean hasItemInto(int heap, int target) {
            for (int i = 0; i < objects.size(); i++) {
                HeapObject object = objects.get(i);
                if (object.heapNumber() == target && object.hasItem(heap)) {
                    return true;
                }
            }
            return false;
        }

        /** Null if no page of the heap has enough room. */
        Page findPage(int heap, int size) {
            for (int i = 0; i < pages.size(); i++) {
                Page page = pages.get(i);
                if (page.heap == heap && page.freeCells >= size) {
                    return page;
                }
            }
            return null;
        }

        Page addPage(int heap, int payer) {
            Page page = new Page(heap, payer);
            pages.add(page);
            return page;
        }

        HeapObject putObject(Page page, int size, int tag) {
            HeapObject object = new HeapObject(page, size, tag);
            page.freeCells -= size;
            objects.add(object);
            return object;
        }

        /** Takes all marks away too: a heap that no collection has marked is freed whole. */
        int freeUnreached(int heap) {
            int freed = 0;
            for (int i = objects.size() - 1; i >= 0; i--) {
                HeapObject object = objects.get(i);
                if (object.heapNumber() == heap && !object.reached) {
                    object.page.freeCells += object.size;
                    objects.remove(i);
                    freed++;
                }
                object.reached = false;
            }
            giveBackEmptyPages();
            return freed;
        }

        private void giveBackEmptyPages() {
            for (int i = pages.size() - 1; i >= 0; i--) {
                if (pages.get(i).freeCells == PAGE_CELLS) {
                    pages.remove(i);
                }
            }
        }

        void endSinglePayment(int heap) {
            for (int i = 0; i < pages.size(); i++) {
                Page page = pages.get(i);
                if (page.heap == heap) {
                    page.payer = NONE;
                }
            }
        }

        /** The pages go behind all others, so that they come behind the kernel's. */
        void mergeIntoKernel(int heap) {
            int all = pages.size();
            int moved = 0;
            for (int i = 0; i < all; i++) {
                Page page = pages.get(i - moved);
                if (page.heap == heap) {
                    pages.remove(i - moved);
                    pages.add(page);
                    page.heap = KERNEL;
                    moved++;
                }
            }
        }

        /** The dead heap is merged by now, so an object of the kernel's may be one that was named across. */
        void handItemsToKernel(int dead) {
            for (int i = 0; i < objects.size(); i++) {
                HeapObject object = objects.get(i);
                if (object.heapNumber() == KERNEL) {
                    object.dropItem(KERNEL);
                } else if (object.hasItem(dead)) {
                    object.addItem(KERNEL);
                }
                object.dropItem(dead);
            }
        }
    }

    /** Frees what cannot be reached in one heap; its row is kept so that a collection makes no objects. */
    private static final class Collector {
        private final HeapObject[] reached = new HeapObject[MOST_OBJECTS];
        private int count = 0;

        /** Answers how many objects were freed. */
        int run(int heap, Memory memory, HeapProcess[] processes) {
            count = 0;
            reachHeld(heap, processes);
            reachNamedFromOutside(heap, memory);
            followFields(heap);
            int freed = memory.freeUnreached(heap);
            loseItems(heap, memory);
            return freed;
        }

        private void reachHeld(int heap, HeapProcess[] processes) {
            for (int p = 0; p < PROCESSES; p++) {
                for (int r = 0; processes[p] != null && r < REGISTERS; r++) {
                    reachObject(heap, processes[p].registers[r]);
                }
            }
        }

        private void reachNamedFromOutside(int heap, Memory memory) {
            for (int i = 0; i < memory.objects.size(); i++) {
                if (memory.objects.get(i).hasAnyItem()) {
                    reachObject(heap, memory.objects.get(i));
                }
            }
        }

        private void followFields(int heap) {
            for (int i = 0; i < count && i < MOST_OBJECTS; i++) {
                for (int f = 0; f < FIELDS; f++) {
                    reachObject(heap, reached[i].fields[f]);
                }
            }
        }

        private void reachObject(int heap, HeapObject object) {
            if (object == null || object.heapNumber() != heap || object.reached || count >= MOST_OBJECTS) {
                return;
            }
            object.reached = true;
            reached[count] = object;
            count++;
        }

        /** Every field that names an object outside has its item, so the items to keep are those of the fields. */
        private void loseItems(int heap, Memory memory) {
            for (int i = 0; i < memory.objects.size(); i++) {
                memory.objects.get(i).dropItem(heap);
            }
            for (int i = 0; i < count; i++) {
                reached[i].addItemsForFields();
            }
        }
    }

    /** The tree of limits, reckoned anew for each question from the pages and charges that there are. */
    private static final class Limits {
        final int[] used = new int[PROCESSES];
        final int[] spare = new int[PROCESSES];
        final boolean[] exists = new boolean[PROCESSES];

        void reckon(HeapProcess[] processes, Memory memory) {
            reckonPayments(processes, memory);
            addChildren(processes);
            reckonSpare(processes);
        }

        private void reckonPayments(HeapProcess[] processes, Memory memory) {
            for (int p = 0; p < PROCESSES; p++) {
                HeapProcess process = processes[p];
                used[p] = process == null ? 0 : memory.countPaidPages(process);
                exists[p] = process != null && (p == 0 || process.isLiving() || used[p] > 0);
            }
        }

        /** A child has a higher number than its parent, so on the way down every child comes before its parent. */
        private void addChildren(HeapProcess[] processes) {
            for (int p = PROCESSES - 1; p > 0; p--) {
                if (exists[p]) {
                    HeapProcess child = processes[p];
                    used[child.parent] += child.hard ? child.limit : used[p];
                    exists[child.parent] = true;
                }
            }
        }

        /** The root is made hard, so a soft node has a parent, and that one has a lower number. */
        private void reckonSpare(HeapProcess[] processes) {
            for (int p = 0; p < PROCESSES; p++) {
                HeapProcess process = processes[p];
                spare[p] = process == null ? 0 : process.limit - used[p];
                if (process != null && !process.hard) {
                    spare[p] = Math.min(spare[p], spare[process.parent]);
                }
            }
        }
    }
}
