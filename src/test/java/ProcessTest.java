/** Promises 1 to 4 and 13: a new object, spawn, kill, mode, state. */
public final class ProcessTest {
    private static final int BAD = ProcessHeaps.BAD;
    private static final int EMPTY = ProcessHeaps.EMPTY;
    private static final int FULL = ProcessHeaps.FULL;
    private static final int LIMIT = ProcessHeaps.LIMIT;
    private static final int KERNEL = 8;
    private static final int MIN = Integer.MIN_VALUE;
    private static final int MAX = Integer.MAX_VALUE;
    private static final boolean[] BOTH = {false, true};

    private ProcessTest() {
    }

    /** How many full pages process 0 can hold at once. */
    private static int pagesThatCanBeMade(ProcessHeaps x) {
        for (int made = 0; made < 30; made++) {
            if (x.make(0, 1, 16, made) != 0) {
                return made;
            }
            x.store(0, 1, 0, 0);
            x.move(0, 0, 1);
        }
        return 30;
    }

    @Sentence(promise = 1, words = "A store of so many pages; 4 if pages is less, 24 if it is more.")
    static void storeHasFourToTwentyFourPages(Check check) {
        int[][] rows = {{MIN, 4}, {-1, 4}, {0, 4}, {1, 4}, {3, 4}, {4, 4}, {5, 5}, {14, 14}, {23, 23}, {24, 24}, {25, 24}, {256, 24}, {MAX, 24}};
        for (int[] row : rows) {
            check.due("room(0) of a store of " + row[0], new ProcessHeaps(row[0]).room(0), row[1]);
            check.due("pages made in a store of " + row[0], pagesThatCanBeMade(new ProcessHeaps(row[0])), row[1]);
        }
    }

    @Sentence(promise = 1, words = "Process 0 lives in user mode")
    static void processZeroLivesInUserMode(Check check) {
        ProcessHeaps x = new ProcessHeaps(8);
        check.due("state(0)", x.state(0), 1);
        check.due("make(0, 0, 1, 1)", x.make(0, 0, 1, 1), 0);
        check.due("where(0, 0)", x.where(0, 0), 0);
    }

    @Sentence(promise = 1, words = "nothing else is there.")
    static void nothingElseIsThere(Check check) {
        ProcessHeaps x = new ProcessHeaps(8);
        for (int p = 0; p < 8; p++) {
            check.due("state(" + p + ")", x.state(p), p == 0 ? 1 : 0);
            check.due("use(" + p + ")", x.use(p), p == 0 ? 0 : BAD);
            check.due("room(" + p + ")", x.room(p), p == 0 ? 8 : BAD);
            for (int r = 0; r < 4; r++) {
                check.due("where(" + p + ", " + r + ")", x.where(p, r), p == 0 ? EMPTY : BAD);
                check.due("tag(" + p + ", " + r + ")", x.tag(p, r), 0);
            }
        }
        for (int h = 0; h < 13; h++) {
            check.due("pages(" + h + ")", x.pages(h), 0);
            check.due("objects(" + h + ")", x.objects(h), 0);
            check.due("items(" + h + ")", x.items(h), 0);
            check.due("shares(0, " + h + ")", x.shares(0, h), false);
        }
        check.due("freeze(0, 0)", x.freeze(0, 0), BAD);
    }

    @Sentence(promise = 2, words = "Process p makes a process with this limit, hard or soft: its number.")
    static void spawnAnswersTheNumber(Check check) {
        ProcessHeaps x = new ProcessHeaps(24);
        int[] limits = {24, 24, 12, 12, 1, 1, 1, 1};
        for (int p = 1; p < 8; p++) {
            check.due("state(" + p + ") before", x.state(p), 0);
            check.due("spawn by " + p / 2, x.spawn(p / 2, limits[p], p % 2 == 0), p);
            check.due("state(" + p + ") after", x.state(p), 1);
        }
    }

    @Sentence(promise = 2, words = "Process p makes a process with this limit, hard or soft")
    static void spawnSetsTheLimit(Check check) {
        ProcessHeaps x = new ProcessHeaps(24);
        x.spawn(0, 3, true);
        x.spawn(0, 4, false);
        check.due("room of the hard one", x.room(1), 3);
        check.due("room of the soft one", x.room(2), 4);
        check.due("the hard limit is in use of the parent, the soft one is not", x.use(0), 3);
    }

    @Sentence(promise = 2, words = "PROCESSES 0 .. 7, numbered as they are made; process 0 is there from the beginning.")
    static void numbersOfTheDeadAreNotUsedAgain(Check check) {
        ProcessHeaps x = new ProcessHeaps(24);
        check.due("the first", x.spawn(0, 1, false), 1);
        x.kill(1);
        check.due("after a death", x.spawn(0, 1, false), 2);
        check.due("one that is BAD", x.spawn(0, 25, false), BAD);
        check.due("one beyond the limit", x.spawn(2, 2, true), LIMIT);
        check.due("these took no number", x.spawn(0, 1, false), 3);
    }

    @Sentence(promise = 2, words = "BAD if p is not a living process")
    static void spawnIsBadUnlessTheMakerLives(Check check) {
        for (int p : Scenes.NOT_LIVING) {
            for (boolean hard : BOTH) {
                check.refused("spawn(" + p + ", 1, " + hard + ")", Scenes.BUSY, x -> x.spawn(p, 1, hard), BAD);
            }
        }
        for (int p : new int[] {0, 1, 3, 4}) {
            check.due("spawn(" + p + ", 1, false)", Scenes.BUSY.make().spawn(p, 1, false), 5);
        }
        ProcessHeaps x = new ProcessHeaps(4);
        for (int p = 0; p < 7; p++) {
            check.due("spawn by process " + p, x.spawn(p, 4, false), p + 1);
        }
        check.due("process 7 is living, so there are too many", x.spawn(7, 4, false), FULL);
    }

    @Sentence(promise = 2, words = "BAD if p is not a living process or limit is not 1 .. 24.")
    static void spawnIsBadUnlessTheLimitIsOneToTwentyFour(Check check) {
        for (int limit : Scenes.outside(1, 24)) {
            for (boolean hard : BOTH) {
                check.refused("spawn(0, " + limit + ", " + hard + ")", Scenes.BUSY, x -> x.spawn(0, limit, hard), BAD);
            }
        }
        for (int limit : new int[] {1, 2, 23, 24}) {
            for (boolean hard : BOTH) {
                ProcessHeaps x = new ProcessHeaps(24);
                check.due("spawn(0, " + limit + ", " + hard + ")", x.spawn(0, limit, hard), 1);
                check.due("room(1)", x.room(1), limit);
            }
        }
    }

    @Sentence(promise = 2, words = "FULL if there were 8 processes.")
    static void spawnIsFullAfterEight(Check check) {
        for (boolean hard : BOTH) {
            check.refused("a ninth, hard: " + hard, Scenes.EIGHT, x -> x.spawn(7, 1, hard), FULL);
            check.refused("a ninth after a death, hard: " + hard, Scenes.EIGHT.then(x -> x.kill(3)), x -> x.spawn(0, 1, hard), FULL);
        }
        ProcessHeaps x = new ProcessHeaps(24);
        for (int p = 1; p < 7; p++) {
            x.spawn(0, 1, false);
        }
        check.due("the eighth", x.spawn(0, 1, false), 7);
    }

    /** Heap 1, under a hard limit of 6, has 2 pages; heap 2, under a soft one of 5 below it, has 1. */
    private static ProcessHeaps withHardAndSoft() {
        ProcessHeaps x = new ProcessHeaps(12);
        x.spawn(0, 6, true);
        Scenes.makeChain(x, 1, 2, 16);
        x.spawn(1, 5, false);
        Scenes.makeChain(x, 2, 1, 16);
        return x;
    }

    @Sentence(promise = 2, words = "LIMIT if hard, and the node of p cannot pay limit more pages")
    static void spawnOfHardOneIsLimited(Check check) {
        Scene scene = ProcessTest::withHardAndSoft;
        check.due("all that the root can pay", scene.make().spawn(0, 6, true), 3);
        check.refused("one more than the root can pay", scene, x -> x.spawn(0, 7, true), LIMIT);
        check.due("all that a hard node can pay", scene.make().spawn(1, 3, true), 3);
        check.refused("one more than a hard node can pay", scene, x -> x.spawn(1, 4, true), LIMIT);
        check.due("all that the parent of a soft node can pay", scene.make().spawn(2, 3, true), 3);
        check.refused("one more than the parent of a soft node can pay", scene, x -> x.spawn(2, 4, true), LIMIT);
        check.refused("the largest limit", scene, x -> x.spawn(0, 24, true), LIMIT);
        Scene rootIsFull = scene.then(x -> x.spawn(0, 6, true));
        check.refused("the root has no page left", rootIsFull, x -> x.spawn(0, 1, true), LIMIT);
        check.due("a hard node has its pages all the same", rootIsFull.make().spawn(1, 3, true), 4);
    }

    @Sentence(promise = 2, words = "LIMIT if hard, and the node of p cannot pay limit more pages")
    static void spawnOfSoftOneIsNotLimited(Check check) {
        ProcessHeaps x = new ProcessHeaps(4);
        x.spawn(0, 4, true);
        check.due("no page is left", x.room(0), 0);
        check.due("a hard one", x.spawn(0, 1, true), LIMIT);
        check.due("a soft one", x.spawn(0, 24, false), 2);
        check.due("it cannot pay a page", x.room(2), 0);
    }

    @Sentence(promise = 2, words = "LIMIT if hard, and the node of p cannot pay limit more pages (no collection is made).")
    static void spawnMakesNoCollection(Check check) {
        Scene scene = () -> {
            ProcessHeaps x = new ProcessHeaps(4);
            Scenes.makeGarbage(x, 0, 1, 16);
            x.mode(0, true);
            Scenes.makeGarbage(x, 0, 1, 16);
            x.mode(0, false);
            return x;
        };
        check.refused("garbage is in the way", scene, x -> x.spawn(0, 3, true), LIMIT);
        ProcessHeaps x = scene.make();
        check.due("what is left can be paid", x.spawn(0, 2, true), 1);
        check.due("the garbage of heap 0 stays", x.objects(0), 1);
        check.due("the garbage of the kernel stays", x.objects(KERNEL), 1);
    }

    @Sentence(promise = 2,
            words = "When several of these answers would do, the one that stands first in the method's comment is given.")
    static void spawnGivesTheFirstAnswer(Check check) {
        check.refused("BAD before FULL", Scenes.EIGHT, x -> x.spawn(8, 1, false), BAD);
        check.refused("BAD before FULL and LIMIT", Scenes.EIGHT, x -> x.spawn(0, 25, true), BAD);
        check.refused("FULL before LIMIT", Scenes.EIGHT, x -> x.spawn(0, 24, true), FULL);
        check.refused("BAD before LIMIT", Scenes.BUSY, x -> x.spawn(2, 24, true), BAD);
    }

    @Sentence(promise = 2, words = "The new process is in user mode, its registers are empty.")
    static void newProcessIsInUserModeAndEmpty(Check check) {
        for (int maker : new int[] {0, 1, 3, 4}) {
            for (boolean hard : BOTH) {
                ProcessHeaps x = Scenes.BUSY.make();
                check.due("spawn by " + maker, x.spawn(maker, 1, hard), 5);
                check.due("its state", x.state(5), 1);
                for (int r = 0; r < 4; r++) {
                    check.due("its register " + r, x.where(5, r), EMPTY);
                    check.due("the tag of its register " + r, x.tag(5, r), 0);
                }
                check.due("it builds no heap", x.begin(5), 11);
            }
        }
    }

    @Sentence(promise = 3, words = "Kills process p: true; false if p is not a living process")
    static void killIsFalseUnlessTheProcessLives(Check check) {
        for (int p : Scenes.NOT_LIVING) {
            check.refused("kill(" + p + ")", Scenes.BUSY, x -> x.kill(p));
        }
        for (int p = 1; p < 8; p++) {
            check.due("kill(" + p + ") of a living one", Scenes.EIGHT.make().kill(p), true);
        }
    }

    @Sentence(promise = 3, words = "false if p is not a living process, is 0, or is DOOMED.")
    static void killOfProcessZeroIsFalse(Check check) {
        check.refused("kill(0) in user mode", Scenes.BUSY, x -> x.kill(0));
        check.refused("kill(0) in kernel mode", Scenes.BUSY.then(x -> x.mode(0, true)), x -> x.kill(0));
    }

    @Sentence(promise = 3, words = "false if p is not a living process, is 0, or is DOOMED.")
    static void killOfDoomedOneIsFalse(Check check) {
        check.refused("kill(4), which is DOOMED", Scenes.BUSY, x -> x.kill(4));
        check.refused("kill(3) once more", Scenes.BUSY.then(x -> x.kill(3)), x -> x.kill(3));
    }

    @Sentence(promise = 3,
            words = "Kills process p: true; false if p is not a living process, is 0, or is DOOMED. In user mode it dies at once")
    static void killInUserModeIsDeathAtOnce(Check check) {
        ProcessHeaps x = Scenes.BUSY.make();
        check.due("kill(1)", x.kill(1), true);
        check.due("state(1)", x.state(1), 4);
        check.due("its registers are no more", x.where(1, 0), BAD);
        check.due("its heap is merged", x.objects(1), 0);
        check.due("it came back from kernel mode before", Scenes.BUSY.then(y -> y.mode(3, false)).make().kill(3), true);
        check.due("and died", Scenes.BUSY.then(y -> y.mode(3, false)).then(y -> y.kill(3)).make().state(3), 4);
    }

    @Sentence(promise = 3, words = "in kernel mode it is DOOMED.")
    static void killInKernelModeDooms(Check check) {
        ProcessHeaps x = Scenes.BUSY.make();
        String before = Looks.shown(Scenes.BUSY.make());
        check.due("kill(3)", x.kill(3), true);
        check.due("state(3)", x.state(3), 3);
        check.due("it is as it was otherwise", Looks.shown(x).equals(before.replace("process 3: 2", "process 3: 3")), true);
    }

    @Sentence(promise = 3, words = "it is in USER MODE or in KERNEL MODE (where a kill is put off: it is DOOMED).")
    static void doomedOneLives(Check check) {
        ProcessHeaps x = Scenes.BUSY.make();
        check.due("spawn", x.spawn(4, 1, false), 5);
        check.due("make", x.make(4, 1, 1, 41), 0);
        check.due("it is made in the kernel heap", x.where(4, 1), KERNEL);
        check.due("store", x.store(4, 0, 0, 1), 0);
        check.due("load", x.load(4, 2, 0, 0), 0);
        check.due("move", x.move(4, 3, 2), true);
        check.due("tag", x.tag(4, 3), 41);
        check.due("begin", x.begin(4), 11);
        check.due("freeze", x.freeze(4, 0), BAD);
        check.due("lookup", x.lookup(4, 9, 0), 0);
        check.due("shares", x.shares(4, 9), true);
        check.due("collect", x.collect(4), 0);
        check.due("use", x.use(4), 2);
    }

    @Sentence(promise = {2, 3, 4, 5, 6, 7, 8, 9, 10, 11, 12, 19, 20, 21},
            words = "A process is LIVING from when it is made until it dies")
    static void deadOneDoesNothing(Check check) {
        check.refused("spawn", Scenes.BUSY, x -> x.spawn(2, 1, false), BAD);
        check.refused("kill", Scenes.BUSY, x -> x.kill(2));
        check.refused("mode", Scenes.BUSY, x -> x.mode(2, true));
        check.refused("make", Scenes.BUSY, x -> x.make(2, 0, 1, 1), BAD);
        check.refused("store", Scenes.BUSY, x -> x.store(2, 0, 0, 0), BAD);
        check.refused("load", Scenes.BUSY, x -> x.load(2, 0, 0, 0), BAD);
        check.refused("move", Scenes.BUSY, x -> x.move(2, 0, 0));
        check.refused("begin", Scenes.BUSY, x -> x.begin(2), BAD);
        check.refused("freeze", Scenes.BUSY, x -> x.freeze(2, 0), BAD);
        check.refused("lookup", Scenes.BUSY, x -> x.lookup(2, 9, 0), BAD);
        check.refused("collect", Scenes.BUSY, x -> x.collect(2), BAD);
        check.refused("shares", Scenes.BUSY, x -> x.shares(2, 9));
        check.refused("where", Scenes.BUSY, x -> x.where(2, 0), BAD);
        check.refused("tag", Scenes.BUSY, x -> x.tag(2, 0), 0);
    }

    @Sentence(promise = 3, words = "A process can be killed at any time without harm to the others.")
    static void killDoesNoHarmToOthers(Check check) {
        for (int p : new int[] {1, 3, 4}) {
            ProcessHeaps x = Scenes.BUSY.make();
            ProcessHeaps y = Scenes.BUSY.make();
            x.kill(p);
            x.mode(p, false);
            check.due("the killed one is dead", x.state(p), 4);
            for (int other : new int[] {0, 1, 3, 4}) {
                if (other != p) {
                    dueAsBefore(check, "of process " + other + " when " + p + " is killed", x, y, other);
                }
            }
        }
    }

    private static void dueAsBefore(Check check, String whose, ProcessHeaps x, ProcessHeaps y, int other) {
        check.due("state " + whose, x.state(other), y.state(other));
        check.due("pages " + whose, x.pages(other), y.pages(other));
        check.due("objects " + whose, x.objects(other), y.objects(other));
        check.due("items " + whose, x.items(other), y.items(other));
        check.due("sharing " + whose, x.shares(other, 9), y.shares(other, 9));
        check.due("what a collection frees " + whose, x.collect(other), y.collect(other));
        for (int r = 0; r < 4; r++) {
            check.due("where " + r + " " + whose, x.where(other, r), y.where(other, r));
            check.due("tag " + r + " " + whose, x.tag(other, r), y.tag(other, r));
        }
    }

    @Sentence(promise = 4, words = "Process p gets into kernel mode, or back into user mode: true")
    static void modeGoesThereAndBack(Check check) {
        ProcessHeaps x = Scenes.EIGHT.make();
        for (int p = 0; p < 8; p++) {
            check.due("mode(" + p + ", true)", x.mode(p, true), true);
            check.due("state(" + p + ")", x.state(p), 2);
            check.due("it makes in the kernel heap", x.make(p, 1, 1, 1) + x.where(p, 1), KERNEL);
            check.due("mode(" + p + ", false)", x.mode(p, false), true);
            check.due("state(" + p + ") again", x.state(p), 1);
            check.due("it makes in its own heap", x.make(p, 1, 1, 1) + x.where(p, 1), p);
        }
    }

    @Sentence(promise = 4, words = "Process p gets into kernel mode, or back into user mode: true")
    static void modeChangesNothingElse(Check check) {
        String before = Looks.shown(Scenes.BUSY.make());
        String after = Looks.shown(Scenes.BUSY.then(x -> x.mode(1, true)).make());
        check.due("into kernel mode", after.equals(before.replace("process 1: 1", "process 1: 2")), true);
        check.same("and back", Scenes.BUSY.then(x -> x.mode(1, true)).then(x -> x.mode(1, false)), Scenes.BUSY);
    }

    @Sentence(promise = 4, words = "false if p is not a living process")
    static void modeIsFalseUnlessTheProcessLives(Check check) {
        for (int p : Scenes.NOT_LIVING) {
            for (boolean kernel : BOTH) {
                check.refused("mode(" + p + ", " + kernel + ")", Scenes.BUSY, x -> x.mode(p, kernel));
            }
        }
    }

    @Sentence(promise = 4, words = "false if p is not a living process or is in that mode.")
    static void modeIsFalseIfItIsInThatMode(Check check) {
        check.refused("user mode in user mode", Scenes.BUSY, x -> x.mode(1, false));
        check.refused("user mode of process 0", Scenes.BUSY, x -> x.mode(0, false));
        check.refused("kernel mode in kernel mode", Scenes.BUSY, x -> x.mode(3, true));
        check.refused("kernel mode of a DOOMED one", Scenes.BUSY, x -> x.mode(4, true));
    }

    @Sentence(promise = 4, words = "A DOOMED one that gets back dies at once.")
    static void doomedOneDiesWhenItGetsBack(Check check) {
        ProcessHeaps x = Scenes.BUSY.make();
        check.due("mode(4, false)", x.mode(4, false), true);
        check.due("state(4)", x.state(4), 4);
        check.due("its node has ceased", x.use(4), BAD);
        Scene doomed = Scenes.BUSY.then(y -> y.mode(1, true)).then(y -> y.kill(1));
        check.same("it dies as one does in user mode", doomed.then(y -> y.mode(1, false)), Scenes.BUSY.then(y -> y.kill(1)));
        check.due("one that is not DOOMED goes on", Scenes.BUSY.then(y -> y.mode(3, false)).make().state(3), 1);
    }

    @Sentence(promise = 13, words = "0 it was not made yet (or there is none such)")
    static void stateOfNoProcess(Check check) {
        for (int p : Scenes.outside(0, 7)) {
            check.due("state(" + p + ")", Scenes.EIGHT.make().state(p), 0);
        }
        for (int p = 5; p < 8; p++) {
            check.due("state(" + p + ") of one that was not made", Scenes.BUSY.make().state(p), 0);
        }
    }

    @Sentence(promise = 13, words = "1 in user mode, 2 in kernel mode, 3 in kernel mode and DOOMED, 4 dead.")
    static void stateOfProcesses(Check check) {
        int[] states = {1, 1, 4, 2, 3};
        for (int p = 0; p < states.length; p++) {
            check.due("state(" + p + ")", Scenes.BUSY.make().state(p), states[p]);
        }
        for (int p = 0; p < 8; p++) {
            check.due("state(" + p + ") of eight", Scenes.EIGHT.make().state(p), 1);
        }
    }

    public static void main(String[] args) throws Exception {
        Tests.run(ProcessTest.class);
    }
}
