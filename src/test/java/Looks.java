import java.util.ArrayList;
import java.util.List;
import java.util.function.Function;

/**
 * All that calls can tell about the state that a scene leaves. Most of these looks change what they look at, so
 * each one is put to an object made for it; so none of these comes near its 512th call either.
 */
final class Looks {
    private static final int PROCESSES = 8;
    private static final int REGISTERS = 4;
    private static final int KERNEL = 8;

    private Looks() {
    }

    /** The first look that differs, null if none does. */
    static String difference(Scene got, Scene want) {
        for (Function<ProcessHeaps, String> look : all()) {
            String one = look.apply(got.make());
            String other = look.apply(want.make());
            if (!one.equals(other)) {
                return firstDifference(one.split("\n"), other.split("\n"));
            }
        }
        return null;
    }

    private static String firstDifference(String[] got, String[] want) {
        int i = 0;
        while (i < got.length - 1 && i < want.length - 1 && got[i].equals(want[i])) {
            i++;
        }
        return "left is" + got[i] + ", due is" + want[i];
    }

    private static List<Function<ProcessHeaps, String>> all() {
        List<Function<ProcessHeaps, String>> looks = new ArrayList<>();
        looks.add(Looks::shown);
        looks.add(Looks::collected);
        looks.add(Looks::killed);
        looks.add(Looks::begunAndSpawned);
        for (int p = 0; p < PROCESSES; p++) {
            int process = p;
            looks.add(x -> lookedUp(x, process));
            looks.add(x -> frozen(x, process));
            looks.add(x -> filled(x, process));
            looks.add(x -> {
                x.mode(process, true);
                return filled(x, process);
            });
            for (int r = 0; r < REGISTERS; r++) {
                int register = r;
                looks.add(x -> fields(x, process, register));
            }
        }
        return looks;
    }

    /** The answers of all calls that only look, in a line for each process and heap. */
    static String shown(ProcessHeaps x) {
        StringBuilder text = new StringBuilder();
        for (int p = 0; p < PROCESSES; p++) {
            text.append("\n process ").append(p).append(": ").append(x.state(p));
            text.append(" use ").append(x.use(p)).append(" room ").append(x.room(p));
            appendRegisters(text, x, p);
            for (int h = 9; h < 13; h++) {
                text.append(x.shares(p, h) ? " shares " + h : "");
            }
        }
        for (int h = 0; h < 13; h++) {
            text.append("\n heap ").append(h).append(": ").append(x.pages(h)).append(' ').append(x.objects(h));
            text.append(' ').append(x.items(h));
        }
        return text.toString();
    }

    private static void appendRegisters(StringBuilder text, ProcessHeaps x, int p) {
        for (int r = 0; r < REGISTERS; r++) {
            text.append(" (").append(x.where(p, r)).append(' ').append(x.tag(p, r)).append(')');
        }
    }

    private static String collected(ProcessHeaps x) {
        StringBuilder text = new StringBuilder(" collected:");
        for (int h = 0; h <= KERNEL; h++) {
            text.append(' ').append(x.collect(h));
        }
        return text + shown(x);
    }

    private static String killed(ProcessHeaps x) {
        StringBuilder text = new StringBuilder(" killed:");
        for (int p = PROCESSES - 1; p > 0; p--) {
            text.append(' ').append(x.kill(p)).append(' ').append(x.mode(p, false));
            text.append(' ').append(x.pages(KERNEL)).append(' ').append(x.items(KERNEL)).append(' ').append(x.use(0));
        }
        text.append(" collected: ").append(x.collect(KERNEL));
        return text + shown(x);
    }

    /** The next numbers, and who is building: a second begin of the same process is refused. */
    private static String begunAndSpawned(ProcessHeaps x) {
        StringBuilder text = new StringBuilder(" begun and spawned:");
        for (int p = 0; p < PROCESSES; p++) {
            text.append(' ').append(x.begin(p));
        }
        return text.append(' ').append(x.spawn(0, 1, false)).append(shown(x)).toString();
    }

    private static String lookedUp(ProcessHeaps x, int p) {
        StringBuilder text = new StringBuilder(" looked up by " + p + ":");
        for (int h = 9; h < 13; h++) {
            text.append(' ').append(x.lookup(p, h, h - 9));
        }
        appendRegisters(text, x, p);
        return text.toString();
    }

    private static String frozen(ProcessHeaps x, int p) {
        StringBuilder text = new StringBuilder(" frozen by " + p + ":");
        for (int r = 0; r < REGISTERS; r++) {
            text.append(' ').append(x.freeze(p, r));
        }
        return text + shown(x);
    }

    /** Small objects and large ones tell how much room each page has, and in which order the pages are. */
    private static String filled(ProcessHeaps x, int p) {
        StringBuilder text = new StringBuilder(" filled by " + p + ":");
        for (int size = 1; size <= 16; size++) {
            text.append(' ').append(x.make(p, size % REGISTERS, size, size)).append(' ').append(x.where(p, size % REGISTERS));
            text.append(' ').append(x.use(0)).append(' ').append(x.use(p));
        }
        return text.toString();
    }

    private static String fields(ProcessHeaps x, int p, int r) {
        StringBuilder text = new StringBuilder(" fields of " + p + "'s register " + r + ":");
        int other = (r + 1) % REGISTERS;
        for (int f = 0; f < 3; f++) {
            text.append(' ').append(x.load(p, other, r, f));
            text.append(' ').append(x.where(p, other)).append(' ').append(x.tag(p, other));
        }
        return text.toString();
    }
}
