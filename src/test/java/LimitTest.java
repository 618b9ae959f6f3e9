/** Promises 17 and 18: use, room, and when a node exists. */
public final class LimitTest {
    private static final int BAD = ProcessHeaps.BAD;
    private static final int LIMIT = ProcessHeaps.LIMIT;
    private static final Check CHECK = new Check();

    private LimitTest() {
    }

    private static void due(ProcessHeaps x, int node, int use, int room) {
        CHECK.due("17: use of node " + node, x.use(node), use);
        CHECK.due("18: room of node " + node, x.room(node), room);
    }

    private static void wrongInputs() {
        ProcessHeaps x = new ProcessHeaps(8);
        int[] nodes = {Integer.MIN_VALUE, -1, 1, 7, 8, Integer.MAX_VALUE};
        for (int node : nodes) {
            due(x, node, BAD, BAD);
        }
        due(x, 0, 0, 8);
    }

    private static void softOnesPassUseUp() {
        ProcessHeaps x = new ProcessHeaps(10);
        x.spawn(0, 6, false);
        x.spawn(1, 9, false);
        due(x, 2, 0, 6);
        x.make(2, 0, 16, 1);
        x.make(1, 0, 16, 1);
        due(x, 2, 1, 4);
        due(x, 1, 2, 4);
        due(x, 0, 2, 8);
        for (int i = 0; i < 3; i++) {
            x.make(0, i, 16, 1);
        }
        x.make(0, 3, 16, 1);
        due(x, 2, 1, 4);
        x.mode(0, true);
        x.make(0, 0, 16, 1);
        due(x, 0, 7, 3);
        due(x, 1, 2, 3);
        due(x, 2, 1, 3);
    }

    private static void hardOnesReserve() {
        ProcessHeaps x = new ProcessHeaps(10);
        x.spawn(0, 4, true);
        x.spawn(0, 8, false);
        x.spawn(1, 24, false);
        due(x, 0, 4, 6);
        due(x, 1, 0, 4);
        due(x, 2, 0, 6);
        due(x, 3, 0, 4);
        x.make(3, 0, 16, 1);
        due(x, 0, 4, 6);
        due(x, 1, 1, 3);
        for (int r = 0; r < 3; r++) {
            x.make(2, r, 16, 1);
            x.make(0, r, 16, 1);
        }
        due(x, 0, 10, 0);
        due(x, 2, 3, 0);
        CHECK.due("5: the soft one cannot pay", x.make(2, 0, 16, 1), LIMIT);
        CHECK.due("5: the hard one's pages are there for it", x.make(3, 1, 16, 1), 0);
        CHECK.due("5: and for its child", x.make(1, 1, 16, 1), 0);
        due(x, 1, 3, 1);
        CHECK.due("2: a hard child of a hard one", x.spawn(1, 1, true), 4);
        due(x, 1, 4, 0);
        due(x, 4, 0, 1);
        due(x, 3, 2, 0);
    }

    private static void nodesOfTheDead() {
        ProcessHeaps x = new ProcessHeaps(10);
        x.spawn(0, 5, true);
        x.spawn(1, 4, false);
        x.spawn(2, 3, true);
        x.make(2, 0, 16, 1);
        x.kill(1);
        due(x, 1, 4, 1);
        x.kill(2);
        due(x, 2, 4, 0);
        due(x, 0, 5, 5);
        x.collect(8);
        due(x, 2, 3, 1);
        x.make(3, 0, 16, 1);
        x.kill(3);
        due(x, 3, 1, 2);
        due(x, 2, 3, 1);
        due(x, 0, 5, 5);
        CHECK.due("12: its object is freed", x.collect(8), 1);
        due(x, 3, BAD, BAD);
        due(x, 2, BAD, BAD);
        due(x, 1, BAD, BAD);
        due(x, 0, 0, 10);
    }

    private static void kernelPages() {
        ProcessHeaps x = new ProcessHeaps(4);
        x.spawn(0, 2, false);
        x.mode(1, true);
        x.make(1, 0, 16, 1);
        x.make(1, 1, 16, 1);
        x.make(1, 2, 16, 1);
        due(x, 1, 0, 1);
        due(x, 0, 3, 1);
        CHECK.due("2: a hard one gets what is left", x.spawn(1, 2, true), LIMIT);
        CHECK.due("2: and no more", x.spawn(1, 1, true), 2);
        due(x, 1, 1, 0);
        due(x, 2, 0, 1);
    }

    private static void sharedHeapsArePaidByEverybody() {
        ProcessHeaps x = new ProcessHeaps(20);
        x.spawn(0, 6, false);
        x.spawn(1, 5, false);
        x.spawn(1, 5, true);
        x.begin(2);
        due(x, 1, 5, 1);
        x.make(2, 0, 16, 1);
        CHECK.due("5: the parent cannot pay", x.make(2, 1, 16, 1), LIMIT);
        x.freeze(2, 0);
        due(x, 2, 1, 0);
        CHECK.due("11: the hard one pays of its own", x.lookup(3, 9, 0), 0);
        due(x, 3, 1, 4);
        due(x, 1, 6, 0);
        CHECK.due("11: the parent cannot pay", x.lookup(1, 9, 0), LIMIT);
        CHECK.due("11: the root can", x.lookup(0, 9, 0), 0);
        due(x, 0, 7, 13);
    }

    public static void main(String[] args) {
        wrongInputs();
        softOnesPassUseUp();
        hardOnesReserve();
        nodesOfTheDead();
        kernelPages();
        sharedHeapsArePaidByEverybody();
        CHECK.finish();
    }
}
