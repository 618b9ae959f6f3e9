/** Promises 6 to 8: store, load, move. */
public final class FieldTest {
    private static final int BAD = ProcessHeaps.BAD;
    private static final int EMPTY = ProcessHeaps.EMPTY;
    private static final int FOREIGN = ProcessHeaps.FOREIGN;
    private static final int KERNEL = 8;
    private static final boolean[] BOTH = {false, true};
    /** What the registers of process 1 hold in the busy scene. */
    private static final String[] KINDS = {"kernel", "frozen", "own", "built"};
    private static final int[] TAGS = {80, 91, 10, 100};
    private static final int IN_KERNEL = 0;
    private static final int IN_FROZEN = 1;
    private static final int IN_OWN = 2;
    private static final int IN_BUILT = 3;

    private FieldTest() {
    }

    private static Scene busyInMode(boolean kernel) {
        return Scenes.BUSY.then(x -> x.mode(1, kernel));
    }

    /** The store is done, and the field names what it should. */
    private static void dueStored(Check check, Scene scene, int r, int q) {
        for (int f = 0; f < 3; f++) {
            ProcessHeaps x = scene.make();
            check.due(KINDS[r] + " names " + KINDS[q] + " in field " + f, x.store(1, r, f, q), 0);
            check.due("load of field " + f, x.load(1, (r + 1) % 4, r, f), 0);
            check.due("what field " + f + " names", x.tag(1, (r + 1) % 4), TAGS[q]);
        }
    }

    private static void dueForeign(Check check, Scene scene, int r, int q) {
        for (int f = 0; f < 3; f++) {
            int field = f;
            check.refused(KINDS[r] + " names " + KINDS[q] + " in field " + f, scene, x -> x.store(1, r, field, q), FOREIGN);
        }
    }

    @Sentence(promise = 6, words = "Process p stores in field f of the object that register r holds what register q holds")
    static void storeSetsTheFieldAlone(Check check) {
        for (int f = 0; f < 3; f++) {
            ProcessHeaps x = new ProcessHeaps(8);
            x.make(0, 0, 1, 10);
            x.make(0, 1, 1, 11);
            check.due("store in field " + f, x.store(0, 0, f, 1), 0);
            for (int other = 0; other < 3; other++) {
                x.load(0, 2, 0, other);
                check.due("field " + other, x.tag(0, 2), other == f ? 11 : 0);
            }
            check.due("register r is as it was", x.tag(0, 0), 10);
            check.due("register q is as it was", x.tag(0, 1), 11);
            x.load(0, 2, 1, f);
            check.due("the field of the other object is empty", x.where(0, 2), EMPTY);
        }
    }

    @Sentence(promise = 6, words = "It has four REGISTERS 0 .. 3; each is EMPTY or holds an object.")
    static void storeTakesAllRegisters(Check check) {
        for (int r = 0; r < 4; r++) {
            for (int q = 0; q < 4; q++) {
                ProcessHeaps x = Scenes.EIGHT.make();
                x.make(7, r, 1, 1);
                x.make(7, q, 1, 2);
                check.due("store(7, " + r + ", 2, " + q + ")", x.store(7, r, 2, q), 0);
                check.due("load(7, " + q + ", " + r + ", 2)", x.load(7, q, r, 2), 0);
                check.due("tag(7, " + q + ")", x.tag(7, q), 2);
            }
        }
    }

    @Sentence(promise = {6, 7}, words = "three FIELDS 0 .. 2, each empty or naming an object.")
    static void fieldsAreThree(Check check) {
        ProcessHeaps x = new ProcessHeaps(8);
        x.make(0, 0, 1, 10);
        for (int f = 0; f < 3; f++) {
            x.make(0, 1, 1, 20 + f);
            check.due("store in field " + f, x.store(0, 0, f, 1), 0);
        }
        x.move(0, 1, -1);
        check.due("all three are named", x.collect(0), 0);
        for (int f = 0; f < 3; f++) {
            check.due("load of field " + f, x.load(0, 1, 0, f), 0);
            check.due("what it names", x.tag(0, 1), 20 + f);
        }
        check.due("a fourth", x.store(0, 0, 3, 1), BAD);
    }

    @Sentence(promise = 6, words = "(the field becomes empty if that is empty)")
    static void storeOfNothingEmptiesTheField(Check check) {
        for (int f = 0; f < 3; f++) {
            ProcessHeaps x = new ProcessHeaps(8);
            x.make(0, 0, 1, 10);
            for (int each = 0; each < 3; each++) {
                x.store(0, 0, each, 0);
            }
            check.due("store of an empty register", x.store(0, 0, f, 3), 0);
            for (int other = 0; other < 3; other++) {
                x.load(0, 1, 0, other);
                check.due("field " + other, x.where(0, 1), other == f ? EMPTY : 0);
            }
        }
        Scene empty = busyInMode(true).then(x -> x.move(1, 3, -1));
        check.due("in a kernel object, in kernel mode", empty.make().store(1, IN_KERNEL, 2, 3), 0);
        Scene built = Scenes.BUSY.then(x -> x.move(1, 0, -1));
        check.due("in an object that is built", built.make().store(1, IN_BUILT, 0, 0), 0);
    }

    @Sentence(promise = 6, words = "BAD if p is not a living process")
    static void storeIsBadUnlessTheProcessLives(Check check) {
        for (int p : Scenes.NOT_LIVING) {
            check.refused("store(" + p + ", 2, 2, 2)", Scenes.BUSY, x -> x.store(p, 2, 2, 2), BAD);
        }
    }

    @Sentence(promise = 6, words = "BAD if p is not a living process, r or q is not 0 .. 3, or f is not 0 .. 2.")
    static void storeIsBadUnlessTheRegistersAreZeroToThree(Check check) {
        for (int wrong : Scenes.NO_REGISTER) {
            check.refused("store(1, " + wrong + ", 2, 2)", Scenes.BUSY, x -> x.store(1, wrong, 2, 2), BAD);
            check.refused("store(1, 2, 2, " + wrong + ")", Scenes.BUSY, x -> x.store(1, 2, 2, wrong), BAD);
        }
    }

    @Sentence(promise = 6, words = "BAD if p is not a living process, r or q is not 0 .. 3, or f is not 0 .. 2.")
    static void storeIsBadUnlessTheFieldIsZeroToTwo(Check check) {
        for (int f : Scenes.NO_FIELD) {
            check.refused("store(1, 2, " + f + ", 2)", Scenes.BUSY, x -> x.store(1, 2, f, 2), BAD);
        }
    }

    @Sentence(promise = 6, words = "EMPTY if register r is empty.")
    static void storeIntoNothingIsEmpty(Check check) {
        for (int r = 0; r < 4; r++) {
            int register = r;
            Scene scene = Scenes.BUSY.then(x -> x.move(1, register, -1));
            for (int q = 0; q < 4; q++) {
                int other = q;
                check.refused("store(1, " + r + ", 0, " + q + ")", scene, x -> x.store(1, register, 0, other), EMPTY);
            }
        }
    }

    @Sentence(promise = 6, words = "FOREIGN if the object in r is of a frozen heap")
    static void storeIntoFrozenIsForeign(Check check) {
        for (boolean kernel : BOTH) {
            for (int q = 0; q < 4; q++) {
                dueForeign(check, busyInMode(kernel), IN_FROZEN, q);
                int emptied = q;
                Scene nothing = busyInMode(kernel).then(x -> x.move(1, emptied, -1));
                check.refused("nothing", nothing, x -> x.store(1, IN_FROZEN, 0, emptied), q == IN_FROZEN ? EMPTY : FOREIGN);
            }
        }
        check.refused("by one that looked it up", Scenes.BUSY.then(x -> x.lookup(0, 9, 2)), x -> x.store(0, 2, 0, 2), FOREIGN);
    }

    @Sentence(promise = 6, words = "if it is of the kernel heap and p is not in kernel mode")
    static void storeIntoKernelObjectInUserModeIsForeign(Check check) {
        for (int q = 0; q < 4; q++) {
            dueForeign(check, Scenes.BUSY, IN_KERNEL, q);
            int emptied = q;
            Scene nothing = Scenes.BUSY.then(x -> x.move(1, emptied, -1));
            check.refused("nothing", nothing, x -> x.store(1, IN_KERNEL, 2, emptied), q == IN_KERNEL ? EMPTY : FOREIGN);
        }
        ProcessHeaps x = Scenes.BUSY.make();
        check.due("a DOOMED process is in kernel mode", x.store(4, 0, 0, 0), 0);
    }

    @Sentence(promise = 6,
            words = "or if q holds an object that may not be named there: an object of the own heap may name those of the own heap, of the kernel heap and of frozen heaps")
    static void ownObjectMayName(Check check) {
        for (boolean kernel : BOTH) {
            dueStored(check, busyInMode(kernel), IN_OWN, IN_OWN);
            dueStored(check, busyInMode(kernel), IN_OWN, IN_KERNEL);
            dueStored(check, busyInMode(kernel), IN_OWN, IN_FROZEN);
            dueForeign(check, busyInMode(kernel), IN_OWN, IN_BUILT);
        }
    }

    @Sentence(promise = 6, words = "one of the kernel heap those of the kernel heap and of the own heap of p")
    static void kernelObjectMayName(Check check) {
        dueStored(check, busyInMode(true), IN_KERNEL, IN_KERNEL);
        dueStored(check, busyInMode(true), IN_KERNEL, IN_OWN);
        dueForeign(check, busyInMode(true), IN_KERNEL, IN_FROZEN);
        dueForeign(check, busyInMode(true), IN_KERNEL, IN_BUILT);
    }

    @Sentence(promise = 6, words = "one of a heap that is being built those of the same heap.")
    static void builtObjectMayName(Check check) {
        for (boolean kernel : BOTH) {
            dueStored(check, busyInMode(kernel), IN_BUILT, IN_BUILT);
            dueForeign(check, busyInMode(kernel), IN_BUILT, IN_KERNEL);
            dueForeign(check, busyInMode(kernel), IN_BUILT, IN_FROZEN);
            dueForeign(check, busyInMode(kernel), IN_BUILT, IN_OWN);
        }
    }

    @Sentence(promise = 6, words = "each at first being BUILT by one process, then FROZEN")
    static void frozenHeapMayBeNamedFromTheFreezeOn(Check check) {
        ProcessHeaps x = Scenes.BUSY.make();
        check.due("an own object names a built one", x.store(1, IN_OWN, 2, IN_BUILT), FOREIGN);
        check.due("a built one may be changed", x.store(1, IN_BUILT, 2, IN_BUILT), 0);
        x.freeze(1, IN_BUILT);
        check.due("an own object names it when it is frozen", x.store(1, IN_OWN, 2, IN_BUILT), 0);
        check.due("it may not be changed then", x.store(1, IN_BUILT, 2, IN_BUILT), FOREIGN);
    }

    /*
     * Of the objects that may not be named there, those of another process's own heap, and of a heap that another
     * process is building, have no test: no register of p ever holds one. p gets objects by make (kernel, built by
     * p, own), lookup (frozen) and load. A frozen object names frozen ones of its heap alone, an own one of p and a
     * kernel one that p made name what p held, and no object leads from these to what another process made: only
     * p stores into objects that p can reach, but for frozen ones, into which nobody stores.
     */

    @Sentence(promise = 6,
            words = "When several of these answers would do, the one that stands first in the method's comment is given.")
    static void storeGivesTheFirstAnswer(Check check) {
        check.refused("BAD of q before EMPTY", Scenes.BUSY, x -> x.store(0, 3, 0, 4), BAD);
        check.refused("BAD of q before EMPTY, at the other end", Scenes.BUSY, x -> x.store(0, 3, 0, -1), BAD);
        check.refused("BAD of f before EMPTY", Scenes.BUSY, x -> x.store(0, 3, 3, 0), BAD);
        check.refused("BAD of p before EMPTY", Scenes.BUSY, x -> x.store(5, 3, 0, 0), BAD);
        check.refused("BAD of q before FOREIGN", Scenes.BUSY, x -> x.store(1, IN_FROZEN, 0, -1), BAD);
        check.refused("BAD of f before FOREIGN", Scenes.BUSY, x -> x.store(1, IN_KERNEL, 3, 0), BAD);
    }

    /*
     * EMPTY and FOREIGN never would do both, neither of store nor of load: where the register is empty there is no
     * object that may not be changed, that may not name another one, or that has a field.
     */

    @Sentence(promise = 7, words = "Register r of process p gets what field f of the object in register q holds (also empty): 0.")
    static void loadGetsTheField(Check check) {
        ProcessHeaps x = new ProcessHeaps(8);
        x.make(0, 0, 1, 10);
        for (int f = 0; f < 3; f++) {
            x.make(0, 1, 1, 20 + f);
            x.store(0, 0, f, 1);
        }
        for (int r = 1; r < 4; r++) {
            for (int f = 0; f < 3; f++) {
                check.due("load(0, " + r + ", 0, " + f + ")", x.load(0, r, 0, f), 0);
                check.due("tag(0, " + r + ")", x.tag(0, r), 20 + f);
            }
        }
        check.due("register q is as it was", x.tag(0, 0), 10);
        check.due("into the same register", x.load(0, 0, 0, 1), 0);
        check.due("tag(0, 0)", x.tag(0, 0), 21);
    }

    @Sentence(promise = 7, words = "gets what field f of the object in register q holds (also empty): 0.")
    static void loadOfEmptyFieldEmptiesTheRegister(Check check) {
        for (int f = 0; f < 3; f++) {
            ProcessHeaps x = Scenes.EIGHT.make();
            x.make(7, 3, 1, 5);
            check.due("load(7, 3, 0, " + f + ")", x.load(7, 3, 0, f), 0);
            check.due("where(7, 3)", x.where(7, 3), EMPTY);
            check.due("into the same register", x.load(7, 0, 0, f), 0);
            check.due("where(7, 0)", x.where(7, 0), EMPTY);
        }
    }

    @Sentence(promise = 7, words = "Register r of process p gets what field f of the object in register q holds")
    static void loadGoesThroughAllKinds(Check check) {
        for (boolean kernel : BOTH) {
            ProcessHeaps x = busyInMode(kernel).make();
            check.due("a frozen object from a frozen one", x.load(1, 3, IN_FROZEN, 0), 0);
            check.due("it is there", x.tag(1, 3), 90);
            check.due("a frozen object from an own one", x.load(1, 3, IN_OWN, 0), 0);
            check.due("it is there", x.tag(1, 3), 91);
            check.due("a kernel object from an own one", x.load(1, 3, IN_OWN, 1), 0);
            check.due("it is there", x.tag(1, 3), 80);
            check.due("an own object from a kernel one", x.load(1, 2, IN_KERNEL, 2), 0);
            check.due("it is there", x.tag(1, 2), 10);
        }
    }

    @Sentence(promise = 7, words = "BAD if p is not a living process")
    static void loadIsBadUnlessTheProcessLives(Check check) {
        for (int p : Scenes.NOT_LIVING) {
            check.refused("load(" + p + ", 0, 2, 0)", Scenes.BUSY, x -> x.load(p, 0, 2, 0), BAD);
        }
    }

    @Sentence(promise = 7, words = "BAD if p is not a living process, r or q is not 0 .. 3, or f is not 0 .. 2.")
    static void loadIsBadUnlessTheRegistersAreZeroToThree(Check check) {
        for (int wrong : Scenes.NO_REGISTER) {
            check.refused("load(1, " + wrong + ", 2, 0)", Scenes.BUSY, x -> x.load(1, wrong, 2, 0), BAD);
            check.refused("load(1, 0, " + wrong + ", 0)", Scenes.BUSY, x -> x.load(1, 0, wrong, 0), BAD);
        }
    }

    @Sentence(promise = 7, words = "BAD if p is not a living process, r or q is not 0 .. 3, or f is not 0 .. 2.")
    static void loadIsBadUnlessTheFieldIsZeroToTwo(Check check) {
        for (int f : Scenes.NO_FIELD) {
            check.refused("load(1, 0, 2, " + f + ")", Scenes.BUSY, x -> x.load(1, 0, 2, f), BAD);
        }
    }

    @Sentence(promise = 7, words = "EMPTY if register q is empty.")
    static void loadFromNothingIsEmpty(Check check) {
        for (int q = 0; q < 4; q++) {
            int emptied = q;
            Scene scene = Scenes.BUSY.then(x -> x.move(1, emptied, -1));
            for (int r = 0; r < 4; r++) {
                int register = r;
                check.refused("load(1, " + r + ", " + q + ", 2)", scene, x -> x.load(1, register, emptied, 2), EMPTY);
            }
        }
    }

    @Sentence(promise = 7,
            words = "When several of these answers would do, the one that stands first in the method's comment is given.")
    static void loadGivesTheFirstAnswer(Check check) {
        check.refused("BAD of r before EMPTY", Scenes.BUSY, x -> x.load(0, 4, 3, 0), BAD);
        check.refused("BAD of r before EMPTY, at the other end", Scenes.BUSY, x -> x.load(0, -1, 3, 0), BAD);
        check.refused("BAD of f before EMPTY", Scenes.BUSY, x -> x.load(0, 0, 3, 3), BAD);
        check.refused("BAD of p before EMPTY", Scenes.BUSY, x -> x.load(5, 0, 3, 0), BAD);
    }

    /*
     * "FOREIGN if the field names an object of the own heap of another process, or of a frozen heap that p does not
     * share" (promise 7) has no test: no run of calls comes there. A field of an object that p can reach names what
     * p itself held (see above, at store), so it names no own object of another process. Only an own object of p can
     * name a frozen one for p; while it does, heap p has an exit item for it, so that p goes on sharing that heap.
     * After a death there are kernel objects that name frozen ones, but nobody can reach those of a dead process.
     * The class asks for both cases all the same. What can be asked is that the sharing lasts as long as the field:
     */
    @Sentence(promise = 7,
            words = "FOREIGN if the field names an object of the own heap of another process, or of a frozen heap that p does not share.")
    static void loadOfFrozenObjectAfterCollections(Check check) {
        ProcessHeaps x = Scenes.BUSY.make();
        x.move(1, IN_FROZEN, -1);
        x.collect(1);
        x.collect(KERNEL);
        check.due("no register holds an object of heap 9", x.load(1, 3, IN_OWN, 0), 0);
        check.due("it is there", x.where(1, 3), 9);
        ProcessHeaps y = Scenes.BUSY.make();
        y.kill(1);
        y.make(3, 2, 1, 33);
        check.due("a kernel object that is no dead one's", y.load(3, 3, 1, 0), 0);
        check.due("it is there", y.tag(3, 3), 30);
    }

    @Sentence(promise = 8, words = "Register r of process p gets what register q holds")
    static void moveGetsTheRegister(Check check) {
        for (int r = 0; r < 4; r++) {
            for (int q = 0; q < 4; q++) {
                ProcessHeaps x = Scenes.BUSY.make();
                check.due("move(1, " + r + ", " + q + ")", x.move(1, r, q), true);
                for (int each = 0; each < 4; each++) {
                    check.due("tag(1, " + each + ")", x.tag(1, each), TAGS[each == r ? q : each]);
                }
            }
        }
        ProcessHeaps x = Scenes.EIGHT.make();
        check.due("move(7, 0, 3) of an empty one", x.move(7, 0, 3), true);
        check.due("where(7, 0)", x.where(7, 0), EMPTY);
    }

    @Sentence(promise = 8, words = "it becomes empty if q is -1: true")
    static void moveFromMinusOneEmpties(Check check) {
        for (int r = 0; r < 4; r++) {
            ProcessHeaps x = Scenes.BUSY.make();
            check.due("move(1, " + r + ", -1)", x.move(1, r, -1), true);
            for (int each = 0; each < 4; each++) {
                check.due("tag(1, " + each + ")", x.tag(1, each), each == r ? 0 : TAGS[each]);
            }
            check.due("where(1, " + r + ")", x.where(1, r), EMPTY);
            check.due("once more", x.move(1, r, -1), true);
        }
    }

    @Sentence(promise = 8, words = "Register r of process p gets what register q holds")
    static void moveFreesNothing(Check check) {
        ProcessHeaps x = new ProcessHeaps(8);
        x.make(0, 0, 16, 1);
        x.move(0, 0, -1);
        check.due("the object exists until a collection", x.objects(0), 1);
        check.due("and its page", x.pages(0), 1);
        check.due("which frees it", x.collect(0), 1);
    }

    @Sentence(promise = 8, words = "false if p is not a living process")
    static void moveIsFalseUnlessTheProcessLives(Check check) {
        for (int p : Scenes.NOT_LIVING) {
            check.refused("move(" + p + ", 0, 1)", Scenes.BUSY, x -> x.move(p, 0, 1));
            check.refused("move(" + p + ", 0, -1)", Scenes.BUSY, x -> x.move(p, 0, -1));
        }
    }

    @Sentence(promise = 8, words = "false if p is not a living process, r is not 0 .. 3, or q is not -1 .. 3.")
    static void moveIsFalseUnlessTheRegisterIsZeroToThree(Check check) {
        for (int r : Scenes.NO_REGISTER) {
            check.refused("move(1, " + r + ", 1)", Scenes.BUSY, x -> x.move(1, r, 1));
            check.refused("move(1, " + r + ", -1)", Scenes.BUSY, x -> x.move(1, r, -1));
        }
    }

    @Sentence(promise = 8, words = "false if p is not a living process, r is not 0 .. 3, or q is not -1 .. 3.")
    static void moveIsFalseUnlessTheSourceIsMinusOneToThree(Check check) {
        for (int q : Scenes.outside(-1, 3)) {
            for (int r = 0; r < 4; r++) {
                int register = r;
                check.refused("move(1, " + r + ", " + q + ")", Scenes.BUSY, x -> x.move(1, register, q));
            }
        }
    }

    public static void main(String[] args) throws Exception {
        Tests.run(FieldTest.class);
    }
}
