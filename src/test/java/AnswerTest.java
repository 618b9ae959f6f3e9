/** What every call keeps to, whatever it is for: what a refused one leaves, and how long an object answers. */
public final class AnswerTest {
    private static final int BAD = ProcessHeaps.BAD;
    private static final int EMPTY = ProcessHeaps.EMPTY;
    private static final int FOREIGN = ProcessHeaps.FOREIGN;
    private static final int FULL = ProcessHeaps.FULL;
    private static final int LIMIT = ProcessHeaps.LIMIT;
    private static final int KERNEL = 8;
    private static final int CALLS = 512;

    private AnswerTest() {
    }

    @Sentence(promise = {2, 3, 4, 5, 6, 7, 8, 9, 10, 11, 12},
            words = "A call that answers BAD, EMPTY, FOREIGN, FULL or false changes nothing")
    static void refusedCallChangesNothingHoweverOften(Check check) {
        check.same("of each call one that is refused, three times", Scenes.BUSY.then(x -> {
            for (int i = 0; i < 3; i++) {
                refuseAll(check, x);
            }
        }), Scenes.BUSY);
        check.same("FULL, three times", Scenes.EIGHT.then(x -> {
            for (int i = 0; i < 3; i++) {
                check.due("spawn", x.spawn(0, 1, false), FULL);
            }
        }), Scenes.EIGHT);
    }

    private static void refuseAll(Check check, ProcessHeaps x) {
        check.due("spawn", x.spawn(0, 0, false), BAD);
        check.due("spawn of a hard one", x.spawn(1, 24, true), LIMIT);
        check.due("kill", x.kill(4), false);
        check.due("mode", x.mode(4, true), false);
        check.due("make", x.make(1, 0, 17, 5), BAD);
        check.due("store", x.store(0, 3, 0, 0), EMPTY);
        check.due("store of a built object", x.store(1, 2, 0, 3), FOREIGN);
        check.due("load", x.load(0, 0, 3, 0), EMPTY);
        check.due("move", x.move(1, 0, -2), false);
        check.due("begin", x.begin(1), BAD);
        check.due("freeze", x.freeze(1, 2), BAD);
        check.due("lookup", x.lookup(1, 10, 0), BAD);
        check.due("collect", x.collect(10), BAD);
    }

    /** No page is left; heaps 1 and 8 have garbage in pages that they need, heap 9 is frozen and has 2 pages. */
    private static ProcessHeaps withNoPageLeft() {
        ProcessHeaps x = new ProcessHeaps(8);
        x.spawn(0, 4, true);
        Scenes.freezeOne(x, 0, 2);
        x.make(1, 0, 12, 1);
        Scenes.makeGarbage(x, 1, 1, 4);
        Scenes.makeChain(x, 1, 3, 16);
        x.mode(0, true);
        x.make(0, 1, 12, 2);
        Scenes.makeGarbage(x, 0, 1, 4);
        x.make(0, 2, 16, 3);
        return x;
    }

    @Sentence(promise = {2, 5, 11}, words = "one that answers LIMIT leaves what its collection did.")
    static void limitLeavesWhatItsCollectionDid(Check check) {
        Scene scene = AnswerTest::withNoPageLeft;
        check.due("room(0)", scene.make().room(0), 0);
        check.due("room(1)", scene.make().room(1), 0);
        check.limited("make in heap 1", scene, x -> x.make(1, 2, 16, 9), 1);
        check.limited("make in the kernel heap", scene, x -> x.make(0, 3, 16, 9), KERNEL);
        check.limited("lookup of heap 9", scene, x -> x.lookup(1, 9, 3), 1);
        check.refused("spawn, which makes no collection", scene, x -> x.spawn(0, 1, true), LIMIT);
        check.refused("spawn by process 1", scene, x -> x.spawn(1, 1, true), LIMIT);
    }

    @Sentence(promise = {14, 15, 16, 17, 18, 19, 20, 21},
            words = "Nothing is promised beyond the answers and state changes described above")
    static void looksChangeNothing(Check check) {
        check.same("all that only look", Scenes.BUSY.then(Looks::shown), Scenes.BUSY);
    }

    @Sentence(promise = {5, 12}, words = "An object is used for at most 512 calls after it has been made")
    static void makesAndCollectsToTheLastCall(Check check) {
        ProcessHeaps x = new ProcessHeaps(4);
        for (int call = 1; call < CALLS; call++) {
            check.due("make, call " + call, x.make(0, call % 3, 16, call), 0);
        }
        check.due("collect, the last call", x.collect(0), 1);
    }

    @Sentence(promise = {4, 6, 7, 11, 13}, words = "An object is used for at most 512 calls after it has been made")
    static void goesOnToTheLastCall(Check check) {
        ProcessHeaps x = Scenes.withFrozen(4, 1).make();
        x.make(1, 1, 1, 5);
        for (int call = 6; call < CALLS - 7; call += 6) {
            check.due("lookup, call " + call, x.lookup(1, 9, 0), 0);
            check.due("store", x.store(1, 1, call % 3, 0), 0);
            check.due("load", x.load(1, 2, 1, call % 3), 0);
            check.due("mode", x.mode(1, true), true);
            check.due("mode", x.mode(1, false), true);
            check.due("spawn", x.spawn(0, 25, false), BAD);
        }
        check.due("tag", x.tag(1, 2), 90);
        check.due("items", x.items(1), 1);
        check.due("state", x.state(1), 1);
    }

    public static void main(String[] args) throws Exception {
        Tests.run(AnswerTest.class);
    }
}
