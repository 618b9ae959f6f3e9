import java.util.function.ToIntBiFunction;

/** Promises 17 and 18: use and room; what a node pays for, when it can pay and when it exists. */
public final class LimitTest {
    private static final int BAD = ProcessHeaps.BAD;
    private static final int LIMIT = ProcessHeaps.LIMIT;
    private static final int KERNEL = 8;

    private LimitTest() {
    }

    private static void due(Check check, ProcessHeaps x, int node, int use, int room) {
        check.due("use(" + node + ")", x.use(node), use);
        check.due("room(" + node + ")", x.room(node), room);
    }

    @Sentence(promise = 17, words = "USE of node p; BAD if it does not exist.")
    static void useOfNoSuchNode(Check check) {
        badForNoSuchNode(check, "use", ProcessHeaps::use);
    }

    @Sentence(promise = 18, words = "The most pages more that node p can pay; BAD if it does not exist.")
    static void roomOfNoSuchNode(Check check) {
        badForNoSuchNode(check, "room", ProcessHeaps::room);
    }

    private static void badForNoSuchNode(Check check, String name, ToIntBiFunction<ProcessHeaps, Integer> look) {
        for (int node : Scenes.outside(0, 7)) {
            check.refused(name + "(" + node + ")", Scenes.EIGHT, x -> look.applyAsInt(x, node), BAD);
        }
        for (int node : new int[] {5, 6, 7}) {
            check.refused(name + "(" + node + ") of one that was not made", Scenes.BUSY, x -> look.applyAsInt(x, node), BAD);
        }
        Scene ceased = Scenes.BUSY.then(x -> x.mode(4, false));
        check.refused(name + "(4) of a dead one that pays for nothing", ceased, x -> look.applyAsInt(x, 4), BAD);
    }

    @Sentence(promise = {17, 18}, words = "Every process has a NODE (numbered like the process)")
    static void nodesOfAllEight(Check check) {
        due(check, Scenes.EIGHT.make(), 0, 8, 16);
        for (int node = 1; node < 8; node++) {
            due(check, Scenes.EIGHT.make(), node, 1, 16);
        }
    }

    @Sentence(promise = {17, 18}, words = "the node of process 0 is the root, its LIMIT is the number of pages of the store")
    static void limitOfTheRoot(Check check) {
        for (int pages = 4; pages <= 24; pages++) {
            ProcessHeaps x = new ProcessHeaps(pages);
            due(check, x, 0, 0, pages);
            Scenes.makeChain(x, 0, pages, 16);
            due(check, x, 0, pages, 0);
            check.due("one page more", x.make(0, 3, 1, 1), LIMIT);
        }
    }

    @Sentence(promise = {2, 17, 18},
            words = "Every process has a NODE (numbered like the process), with a LIMIT, and it is HARD or SOFT")
    static void everyProcessHasANode(Check check) {
        ProcessHeaps x = new ProcessHeaps(24);
        for (int p = 1; p < 8; p++) {
            due(check, x, p, BAD, BAD);
            x.spawn(0, p, p % 2 == 1);
            due(check, x, p, 0, p);
        }
        due(check, x, 0, 1 + 3 + 5 + 7, 24 - 16);
    }

    @Sentence(promise = 17, words = "USE of a node: the pages it pays for")
    static void useCountsPages(Check check) {
        ProcessHeaps x = new ProcessHeaps(12);
        x.spawn(0, 6, false);
        x.make(1, 0, 1, 1);
        due(check, x, 1, 1, 5);
        x.make(1, 1, 15, 1);
        due(check, x, 1, 1, 5);
        x.make(1, 2, 1, 1);
        due(check, x, 1, 2, 4);
        x.begin(1);
        x.make(1, 3, 1, 1);
        due(check, x, 1, 3, 3);
        x.mode(1, true);
        x.make(1, 3, 1, 1);
        due(check, x, 1, 3, 3);
        due(check, x, 0, 4, 8);
    }

    @Sentence(promise = 17, words = "plus the pages of every frozen heap it pays for")
    static void useCountsFrozenHeaps(Check check) {
        ProcessHeaps x = Scenes.withFrozen(24, 2).make();
        Scenes.freezeOne(x, 1, 3);
        due(check, x, 1, 5, 19);
        x.spawn(0, 6, false);
        x.lookup(2, 10, 0);
        due(check, x, 2, 3, 3);
        x.lookup(2, 9, 1);
        due(check, x, 2, 5, 1);
        x.lookup(2, 9, 2);
        due(check, x, 2, 5, 1);
        due(check, x, 0, 10, 14);
    }

    @Sentence(promise = {11, 17}, words = "for a frozen heap several nodes can pay, each for all its pages")
    static void everybodyPaysInFull(Check check) {
        ProcessHeaps x = Scenes.withFrozen(24, 3).make();
        for (int p = 2; p < 8; p++) {
            x.spawn(0, 3, false);
            check.due("lookup by " + p, x.lookup(p, 9, 0), 0);
            due(check, x, p, 3, 0);
            due(check, x, 0, 3 * p, 24 - 3 * p);
        }
        check.due("by the root", x.lookup(0, 9, 0), 0);
        due(check, x, 0, 24, 0);
        check.due("they are 3 pages", x.pages(9), 3);
        for (int p = 7; p > 1; p--) {
            x.move(p, 0, -1);
            x.collect(p);
            due(check, x, 0, 3 * p, 24 - 3 * p);
        }
    }

    @Sentence(promise = 17, words = "plus, for each child node that exists, its LIMIT if it is HARD")
    static void useCountsTheLimitOfHardChildren(Check check) {
        ProcessHeaps x = new ProcessHeaps(12);
        x.spawn(0, 4, true);
        due(check, x, 0, 4, 8);
        Scenes.makeChain(x, 1, 2, 16);
        due(check, x, 0, 4, 8);
        x.spawn(1, 2, true);
        due(check, x, 1, 4, 0);
        due(check, x, 0, 4, 8);
        x.spawn(0, 3, true);
        due(check, x, 0, 7, 5);
        x.kill(1);
        due(check, x, 0, 7, 5);
        x.kill(2);
        due(check, x, 1, 2, 2);
        due(check, x, 0, 7, 5);
        x.collect(KERNEL);
        due(check, x, 1, BAD, BAD);
        due(check, x, 0, 3, 9);
    }

    @Sentence(promise = 17, words = "its USE if it is SOFT.")
    static void useCountsTheUseOfSoftChildren(Check check) {
        ProcessHeaps x = new ProcessHeaps(12);
        x.spawn(0, 10, false);
        x.spawn(1, 9, false);
        x.spawn(1, 8, false);
        due(check, x, 0, 0, 12);
        Scenes.makeChain(x, 2, 2, 16);
        Scenes.makeChain(x, 3, 3, 16);
        Scenes.makeChain(x, 1, 1, 16);
        due(check, x, 3, 3, 4);
        due(check, x, 2, 2, 4);
        due(check, x, 1, 6, 4);
        due(check, x, 0, 6, 6);
        x.kill(3);
        due(check, x, 3, 3, 4);
        due(check, x, 1, 6, 4);
        x.collect(KERNEL);
        due(check, x, 3, BAD, BAD);
        due(check, x, 1, 3, 7);
    }

    @Sentence(promise = {5, 18}, words = "A node CAN PAY k more pages when USE + k is at most its LIMIT")
    static void roomOfItsOwnLimit(Check check) {
        for (int limit = 1; limit <= 4; limit++) {
            ProcessHeaps x = new ProcessHeaps(24);
            x.spawn(0, limit, false);
            for (int i = 0; i < limit; i++) {
                due(check, x, 1, i, limit - i);
                check.due("page " + i + " of " + limit, x.make(1, i, 16, i), 0);
            }
            due(check, x, 1, limit, 0);
            check.due("one page more", x.make(1, 0, 16, 9), LIMIT);
        }
    }

    @Sentence(promise = {2, 18}, words = "The most pages more that node p can pay")
    static void roomIsTheMost(Check check) {
        Scene scene = Scenes.BUSY;
        for (int p : new int[] {0, 1, 3, 4}) {
            int room = scene.make().room(p);
            check.due("room(" + p + ") is some", room > 0, true);
            check.due("so many can be paid by " + p, scene.make().spawn(p, room, true), 5);
            check.refused("one more cannot be paid by " + p, scene, x -> x.spawn(p, room + 1, true), LIMIT);
        }
        due(check, scene.make(), 0, 14, 10);
        due(check, scene.make(), 1, 8, 4);
        due(check, scene.make(), 2, 3, 0);
        due(check, scene.make(), 3, 1, 3);
        due(check, scene.make(), 4, 0, 2);
    }

    @Sentence(promise = {5, 18}, words = "unless it is the root or HARD, its parent can pay k more.")
    static void roomOfSoftNodesIsThatOfTheParent(Check check) {
        ProcessHeaps x = new ProcessHeaps(10);
        x.spawn(0, 6, false);
        x.spawn(1, 9, false);
        x.spawn(2, 24, false);
        due(check, x, 1, 0, 6);
        due(check, x, 2, 0, 6);
        due(check, x, 3, 0, 6);
        Scenes.makeChain(x, 0, 5, 16);
        due(check, x, 1, 0, 5);
        due(check, x, 3, 0, 5);
        Scenes.makeChain(x, 3, 5, 16);
        due(check, x, 3, 5, 0);
        check.due("the root has no page left", x.make(3, 1, 1, 1), LIMIT);
    }

    @Sentence(promise = {5, 18}, words = "unless it is the root or HARD, its parent can pay k more.")
    static void roomOfHardNodesIsTheirOwn(Check check) {
        ProcessHeaps x = new ProcessHeaps(10);
        x.spawn(0, 4, true);
        x.spawn(1, 24, false);
        x.spawn(0, 8, false);
        Scenes.makeChain(x, 0, 6, 16);
        due(check, x, 0, 10, 0);
        due(check, x, 1, 0, 4);
        due(check, x, 2, 0, 4);
        due(check, x, 3, 0, 0);
        check.due("the soft one cannot pay", x.make(3, 0, 1, 1), LIMIT);
        check.due("the hard one can", x.make(1, 0, 16, 1), 0);
        check.due("and its soft child", x.make(2, 0, 16, 1), 0);
        due(check, x, 1, 2, 2);
        due(check, x, 2, 1, 2);
        check.due("a hard child of the hard one", x.spawn(1, 1, true), 4);
        due(check, x, 1, 3, 1);
        due(check, x, 2, 1, 1);
        due(check, x, 4, 0, 1);
        due(check, x, 0, 10, 0);
    }

    @Sentence(promise = {17, 18}, words = "A node exists as long as its process lives")
    static void nodeExistsWhileTheProcessLives(Check check) {
        ProcessHeaps x = new ProcessHeaps(8);
        due(check, x, 1, BAD, BAD);
        x.spawn(0, 3, false);
        due(check, x, 1, 0, 3);
        x.mode(1, true);
        x.kill(1);
        due(check, x, 1, 0, 3);
        x.mode(1, false);
        due(check, x, 1, BAD, BAD);
        due(check, x, 0, 0, 8);
    }

    @Sentence(promise = {17, 18}, words = "it pays for something")
    static void nodeExistsWhileItPays(Check check) {
        for (boolean hard : new boolean[] {false, true}) {
            ProcessHeaps x = new ProcessHeaps(8);
            x.spawn(0, 3, hard);
            x.make(1, 0, 1, 1);
            x.kill(1);
            due(check, x, 1, 1, 2);
            due(check, x, 0, hard ? 3 : 1, hard ? 5 : 7);
            x.collect(KERNEL);
            due(check, x, 1, BAD, BAD);
            due(check, x, 0, 0, 8);
        }
    }

    @Sentence(promise = {17, 18}, words = "or a child node of it exists")
    static void nodeExistsWhileAChildExists(Check check) {
        for (boolean hard : new boolean[] {false, true}) {
            ProcessHeaps x = new ProcessHeaps(8);
            x.spawn(0, 5, hard);
            x.spawn(1, 2, false);
            x.spawn(1, 2, false);
            x.kill(1);
            due(check, x, 1, 0, 5);
            due(check, x, 0, hard ? 5 : 0, hard ? 3 : 8);
            x.kill(2);
            due(check, x, 1, 0, 5);
            x.kill(3);
            due(check, x, 1, BAD, BAD);
            due(check, x, 0, 0, 8);
        }
    }

    @Sentence(promise = {17, 18},
            words = "(When the last child of a node of a dead process ceases to exist it can cease with it, and so on upwards.)")
    static void nodesCeaseUpwards(Check check) {
        ProcessHeaps x = new ProcessHeaps(10);
        x.spawn(0, 5, true);
        x.spawn(1, 4, false);
        x.spawn(2, 3, true);
        x.make(3, 0, 16, 1);
        x.kill(1);
        due(check, x, 1, 3, 2);
        x.kill(2);
        due(check, x, 2, 3, 1);
        due(check, x, 0, 5, 5);
        x.kill(3);
        due(check, x, 3, 1, 2);
        due(check, x, 2, 3, 1);
        due(check, x, 1, 3, 2);
        due(check, x, 0, 5, 5);
        check.due("the last page is given back", x.collect(KERNEL), 1);
        for (int node = 3; node > 0; node--) {
            due(check, x, node, BAD, BAD);
        }
        due(check, x, 0, 0, 10);
    }

    @Sentence(promise = {17, 18},
            words = "(When the last child of a node of a dead process ceases to exist it can cease with it, and so on upwards.)")
    static void nodesCeaseNoFurtherThanOneThatLives(Check check) {
        ProcessHeaps x = new ProcessHeaps(10);
        x.spawn(0, 5, false);
        x.spawn(1, 4, false);
        x.spawn(2, 3, false);
        x.kill(2);
        x.kill(3);
        due(check, x, 3, BAD, BAD);
        due(check, x, 2, BAD, BAD);
        due(check, x, 1, 0, 5);
        ProcessHeaps y = new ProcessHeaps(10);
        y.spawn(0, 5, false);
        y.spawn(1, 4, false);
        y.make(1, 0, 1, 1);
        y.kill(1);
        y.kill(2);
        due(check, y, 2, BAD, BAD);
        due(check, y, 1, 1, 4);
    }

    @Sentence(promise = 17, words = "the parent of another one is the node of the process that made it.")
    static void parentIsTheMaker(Check check) {
        ProcessHeaps x = new ProcessHeaps(24);
        x.spawn(0, 20, false);
        x.spawn(0, 20, false);
        x.spawn(1, 10, false);
        x.spawn(2, 10, true);
        due(check, x, 1, 0, 14);
        due(check, x, 2, 10, 10);
        Scenes.makeChain(x, 3, 3, 16);
        due(check, x, 1, 3, 11);
        due(check, x, 2, 10, 10);
        Scenes.makeChain(x, 4, 4, 16);
        due(check, x, 2, 10, 10);
        due(check, x, 0, 13, 11);
    }

    @Sentence(promise = {17, 19}, words = "The node of a living process pays for exactly the frozen heaps that it shares.")
    static void livingNodePaysForWhatItShares(Check check) {
        ProcessHeaps x = Scenes.withFrozen(24, 2).make();
        x.spawn(0, 12, false);
        due(check, x, 2, 0, 12);
        x.lookup(2, 9, 0);
        due(check, x, 2, 2, 10);
        x.move(2, 0, -1);
        due(check, x, 2, 2, 10);
        x.collect(2);
        due(check, x, 2, 0, 12);
        x.lookup(2, 9, 0);
        due(check, x, 2, 2, 10);
        x.move(1, 0, -1);
        x.collect(1);
        due(check, x, 1, 0, 22);
        due(check, x, 2, 2, 10);
    }

    /*
     * Two clauses of "A node exists as long as ..." never decide alone. "the root always": process 0 cannot be
     * killed, so its node exists because it lives. "it pays for something", for a frozen heap alone: an exit item
     * that makes the node of a dead process pay is of an object in a page for which that node pays too, and the
     * collection of the kernel heap that could free that object loses the exit item as well.
     */

    public static void main(String[] args) throws Exception {
        Tests.run(LimitTest.class);
    }
}
