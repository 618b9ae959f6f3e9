import java.util.ArrayList;
import java.util.List;
import java.util.Random;

/** Long runs of calls, the same ones every time, on the program and on the plain model of the document. */
public final class RandomRunsTest {
    private static final int RUNS = 6000;
    /** The looks at a run's end, too, must be done with the 512th call. */
    private static final int CALLS = 512 - 159;

    private final Random random;
    private final ProcessHeaps program;
    private final PlainModel model;
    private final List<String> told = new ArrayList<>();
    private final int busiest;
    private final int largest;
    private int processes = 1;

    private RandomRunsTest(long seed) {
        random = new Random(seed);
        int pages = random.nextInt(27);
        busiest = 1 + random.nextInt(8);
        largest = random.nextBoolean() ? 16 : 4;
        program = new ProcessHeaps(pages);
        model = new PlainModel(pages);
        told.add("new ProcessHeaps(" + pages + ")");
    }

    /** Mostly a number from 0 below the bound, now and then one beside it or far from it. */
    private int number(int bound) {
        int kind = random.nextInt(60);
        if (kind == 0) {
            return -1;
        }
        if (kind == 1) {
            return bound;
        }
        return kind == 2 ? random.nextInt() : random.nextInt(bound);
    }

    private int process() {
        return number(Math.min(processes, busiest));
    }

    private boolean same(String call, int got, int want) {
        told.add(call + " = " + got);
        if (got == want) {
            return true;
        }
        told.add("due is " + want);
        return false;
    }

    private boolean same(String call, boolean got, boolean want) {
        return same(call, got ? 1 : 0, want ? 1 : 0);
    }

    private boolean call() {
        int p = process();
        int r = number(4);
        int q = number(4);
        int f = number(3);
        int h = 9 + number(4);
        int size = 1 + number(largest);
        int tag = random.nextInt();
        boolean flag = random.nextBoolean();
        int limit = 1 + number(24);
        switch (random.nextInt(34)) {
            case 0: case 1:
                processes = Math.min(8, processes + 1);
                return same("spawn(" + p + ", " + limit + ", " + flag + ")", program.spawn(p, limit, flag), model.spawn(p, limit, flag));
            case 2:
                return flag || same("kill(" + p + ")", program.kill(p), model.kill(p));
            case 3: case 4:
                return same("mode(" + p + ", " + flag + ")", program.mode(p, flag), model.mode(p, flag));
            case 5: case 6: case 7: case 8: case 9: case 10: case 11: case 12:
                return same("make(" + p + ", " + r + ", " + size + ", " + tag + ")", program.make(p, r, size, tag), model.make(p, r, size, tag));
            case 13: case 14: case 15: case 16: case 17: case 18: case 19:
                return same("store(" + p + ", " + r + ", " + f + ", " + q + ")", program.store(p, r, f, q), model.store(p, r, f, q));
            case 20: case 21: case 22:
                return same("load(" + p + ", " + r + ", " + q + ", " + f + ")", program.load(p, r, q, f), model.load(p, r, q, f));
            case 23: case 24: case 25:
                int from = flag ? -1 : q;
                return same("move(" + p + ", " + r + ", " + from + ")", program.move(p, r, from), model.move(p, r, from));
            case 26:
                return same("begin(" + p + ")", program.begin(p), model.begin(p));
            case 27: case 28:
                return same("freeze(" + p + ", " + r + ")", program.freeze(p, r), model.freeze(p, r));
            case 29: case 30: case 31:
                return same("lookup(" + p + ", " + h + ", " + r + ")", program.lookup(p, h, r), model.lookup(p, h, r));
            default:
                int heap = flag ? number(14) : p;
                return same("collect(" + heap + ")", program.collect(heap), model.collect(heap));
        }
    }

    private boolean look() {
        int p = number(8);
        int r = number(4);
        int h = number(13);
        switch (random.nextInt(5)) {
            case 0:
                return same("use(" + p + ")", program.use(p), model.use(p));
            case 1:
                return same("room(" + p + ")", program.room(p), model.room(p));
            case 2:
                return same("where(" + p + ", " + r + ")", program.where(p, r), model.where(p, r));
            case 3:
                return same("items(" + h + ")", program.items(h), model.items(h));
            default:
                return same("objects(" + h + ")", program.objects(h), model.objects(h));
        }
    }

    private boolean looksTheSame() {
        boolean same = true;
        for (int p = 0; p < 8 && same; p++) {
            same = same("state(" + p + ")", program.state(p), model.state(p))
                    && same("use(" + p + ")", program.use(p), model.use(p))
                    && same("room(" + p + ")", program.room(p), model.room(p));
            for (int r = 0; r < 4 && same; r++) {
                same = same("where(" + p + ", " + r + ")", program.where(p, r), model.where(p, r))
                        && same("tag(" + p + ", " + r + ")", program.tag(p, r), model.tag(p, r));
            }
            for (int h = 9; h < 13 && same; h++) {
                same = same("shares(" + p + ", " + h + ")", program.shares(p, h), model.shares(p, h));
            }
        }
        for (int h = 0; h < 13 && same; h++) {
            same = same("pages(" + h + ")", program.pages(h), model.pages(h))
                    && same("objects(" + h + ")", program.objects(h), model.objects(h))
                    && same("items(" + h + ")", program.items(h), model.items(h));
        }
        return same;
    }

    /** Runs end early and late, since all is looked at only then. */
    private boolean run() {
        int calls = 1 + random.nextInt(CALLS);
        for (int i = 0; i < calls; i++) {
            if (!(random.nextInt(5) == 0 ? look() : call())) {
                return false;
            }
        }
        return looksTheSame();
    }

    @Sentence(promise = {1, 2, 3, 4, 5, 6, 7, 8, 9, 10, 11, 12, 13, 14, 15, 16, 17, 18, 19, 20, 21},
            words = "Nothing is promised beyond the answers and state changes described above, and nothing about an object after its 512th call.")
    static void runsAreAsTheDocumentAsks(Check check) {
        boolean same = true;
        for (int seed = 1; seed <= RUNS && same; seed++) {
            RandomRunsTest test = new RandomRunsTest(seed);
            same = test.run();
            check.due("run " + seed + " is as the document asks", same, true);
            if (!same) {
                test.told.forEach(check::fail);
            }
        }
    }

    public static void main(String[] args) throws Exception {
        Tests.run(RandomRunsTest.class);
    }
}
