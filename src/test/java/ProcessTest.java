/** Promises 1 to 4 and 13: a new object, spawn, kill, mode, state. */
public final class ProcessTest {
    private static final int BAD = ProcessHeaps.BAD;
    private static final int FULL = ProcessHeaps.FULL;
    private static final int LIMIT = ProcessHeaps.LIMIT;
    private static final Check CHECK = new Check();

    private ProcessTest() {
    }

    private static void newObject() {
        int[][] asked = {{Integer.MIN_VALUE, 4}, {-1, 4}, {3, 4}, {4, 4}, {5, 5}, {23, 23}, {24, 24}, {25, 24}, {Integer.MAX_VALUE, 24}};
        for (int[] row : asked) {
            CHECK.due("1: room of a store of " + row[0], new ProcessHeaps(row[0]).room(0), row[1]);
        }
        ProcessHeaps x = new ProcessHeaps(10);
        CHECK.due("1: process 0 lives in user mode", x.state(0), 1);
        CHECK.due("1: nothing is used", x.use(0), 0);
        for (int p = 1; p < 8; p++) {
            CHECK.due("1: process " + p + " is not there", x.state(p), 0);
            CHECK.due("1: node " + p + " is not there", x.use(p), BAD);
        }
        for (int h = 0; h < 13; h++) {
            CHECK.due("1: heap " + h + " is empty", x.pages(h) + x.objects(h) + x.items(h), 0);
        }
        for (int r = 0; r < 4; r++) {
            CHECK.due("1: register " + r + " is empty", x.where(0, r), ProcessHeaps.EMPTY);
        }
    }

    private static void spawn() {
        ProcessHeaps x = new ProcessHeaps(6);
        CHECK.due("2: limit 0", x.spawn(0, 0, false), BAD);
        CHECK.due("2: limit 25", x.spawn(0, 25, true), BAD);
        CHECK.due("2: maker -1", x.spawn(-1, 1, false), BAD);
        CHECK.due("2: maker 8", x.spawn(8, 1, false), BAD);
        CHECK.due("2: maker not made", x.spawn(1, 1, false), BAD);
        CHECK.due("2: hard, more than the store", x.spawn(0, 7, true), LIMIT);
        CHECK.due("2: soft, more than the store", x.spawn(0, 24, false), 1);
        CHECK.due("2: hard child of a soft one, more than the root has", x.spawn(1, 7, true), LIMIT);
        CHECK.due("2: hard child of a soft one", x.spawn(1, 6, true), 2);
        CHECK.due("2: the hard limit is used at once", x.room(0), 0);
        CHECK.due("2: no page is left for a hard one", x.spawn(0, 1, true), LIMIT);
        CHECK.due("2: it is in user mode", x.state(2), 1);
        CHECK.due("2: its registers are empty", x.where(2, 3), ProcessHeaps.EMPTY);
        for (int p = 3; p < 8; p++) {
            CHECK.due("2: the next number", x.spawn(0, 1, false), p);
        }
        CHECK.due("2: a ninth", x.spawn(0, 1, false), FULL);
        CHECK.due("2: FULL stands before LIMIT", x.spawn(0, 24, true), FULL);
        CHECK.due("2: BAD stands before FULL", x.spawn(0, 0, true), BAD);
        x.kill(7);
        CHECK.due("2: the dead count too", x.spawn(0, 1, false), FULL);
        CHECK.due("2: a dead maker", x.spawn(7, 1, false), BAD);
    }

    private static void spawnMakesNoCollection() {
        ProcessHeaps x = new ProcessHeaps(4);
        x.make(0, 0, 16, 1);
        x.move(0, 0, -1);
        CHECK.due("2: garbage is in the way", x.spawn(0, 4, true), LIMIT);
        CHECK.due("2: no collection is made", x.objects(0), 1);
        x.collect(0);
        CHECK.due("2: after a collection", x.spawn(0, 4, true), 1);
    }

    private static void kill() {
        ProcessHeaps x = new ProcessHeaps(8);
        x.spawn(0, 4, false);
        x.spawn(1, 4, false);
        CHECK.due("3: process 0", x.kill(0), false);
        CHECK.due("3: process -1", x.kill(-1), false);
        CHECK.due("3: process 8", x.kill(8), false);
        CHECK.due("3: not made", x.kill(3), false);
        CHECK.due("3: in user mode", x.kill(1), true);
        CHECK.due("3: it is dead", x.state(1), 4);
        CHECK.due("3: its child lives", x.state(2), 1);
        CHECK.due("3: a dead one", x.kill(1), false);
        x.mode(2, true);
        CHECK.due("3: in kernel mode", x.kill(2), true);
        CHECK.due("3: it is doomed", x.state(2), 3);
        CHECK.due("3: a doomed one", x.kill(2), false);
        CHECK.due("3: a doomed one makes a process", x.spawn(2, 1, false), 3);
        x.mode(0, true);
        CHECK.due("3: process 0 in kernel mode", x.kill(0), false);
        CHECK.due("3: process 0 is not doomed", x.state(0), 2);
    }

    private static void mode() {
        ProcessHeaps x = new ProcessHeaps(8);
        x.spawn(0, 4, false);
        CHECK.due("4: process -1", x.mode(-1, true), false);
        CHECK.due("4: process 8", x.mode(8, true), false);
        CHECK.due("4: not made", x.mode(2, true), false);
        CHECK.due("4: in user mode already", x.mode(1, false), false);
        CHECK.due("4: into kernel mode", x.mode(1, true), true);
        CHECK.due("4: it is there", x.state(1), 2);
        CHECK.due("4: in kernel mode already", x.mode(1, true), false);
        CHECK.due("4: back", x.mode(1, false), true);
        CHECK.due("4: it is back", x.state(1), 1);
        x.mode(1, true);
        x.kill(1);
        CHECK.due("4: doomed, in kernel mode already", x.mode(1, true), false);
        CHECK.due("4: doomed, still", x.state(1), 3);
        CHECK.due("4: doomed, back", x.mode(1, false), true);
        CHECK.due("4: it is dead", x.state(1), 4);
        CHECK.due("4: a dead one", x.mode(1, true), false);
        CHECK.due("4: its node is gone", x.use(1), BAD);
    }

    private static void state() {
        ProcessHeaps x = new ProcessHeaps(8);
        CHECK.due("13: process -1", x.state(-1), 0);
        CHECK.due("13: process 8", x.state(8), 0);
        CHECK.due("13: largest number", x.state(Integer.MAX_VALUE), 0);
        x.spawn(0, 1, false);
        int[] states = {x.state(0), x.state(1), x.state(2)};
        CHECK.due("13: user mode", states[0] * 100 + states[1] * 10 + states[2], 110);
        x.mode(1, true);
        CHECK.due("13: kernel mode", x.state(1), 2);
        x.kill(1);
        CHECK.due("13: doomed", x.state(1), 3);
        x.mode(1, false);
        CHECK.due("13: dead", x.state(1), 4);
    }

    public static void main(String[] args) {
        newObject();
        spawn();
        spawnMakesNoCollection();
        kill();
        mode();
        state();
        CHECK.finish();
    }
}
