import java.util.ArrayList;
import java.util.HashSet;
import java.util.LinkedHashSet;
import java.util.List;
import java.util.Set;
import java.util.TreeSet;

/**
 * The document once more, term by term and without thought of cost, to hold the program against: exit items,
 * charges and pages are sets and lists of each heap and node here, and USE is reckoned by recursion.
 */
final class PlainModel {
    private static final int KERNEL = 8;

    private static final class Thing {
        Sheet sheet;
        int size;
        int tag;
        final Thing[] fields = new Thing[3];
    }

    private static final class Sheet {
        Heap heap;
        final List<Thing> things = new ArrayList<>();

        int filled() {
            return things.stream().mapToInt(thing -> thing.size).sum();
        }
    }

    private static final class Heap {
        final List<Sheet> sheets = new ArrayList<>();
        final Set<Thing> items = new HashSet<>();
        Thing head;

        Set<Thing> things() {
            Set<Thing> all = new LinkedHashSet<>();
            sheets.forEach(sheet -> all.addAll(sheet.things));
            return all;
        }

        boolean hasItemFor(Heap other) {
            return items.stream().anyMatch(thing -> thing.sheet.heap == other);
        }
    }

    private final class Node {
        int limit;
        boolean hard;
        Node parent;
        final Set<Sheet> paid = new HashSet<>();
        final Set<Integer> charged = new TreeSet<>();
        boolean living = true;
        boolean kernel = false;
        boolean doomed = false;
        int building = -1;
        final Thing[] registers = new Thing[4];

        boolean exists() {
            return parent == null || living || !paid.isEmpty() || !charged.isEmpty()
                    || nodes.stream().anyMatch(node -> node.parent == this && node.exists());
        }

        int use() {
            int sum = paid.size();
            for (int heap : charged) {
                sum += heaps[heap].sheets.size();
            }
            for (Node node : nodes) {
                if (node.parent == this && node.exists()) {
                    sum += node.hard ? node.limit : node.use();
                }
            }
            return sum;
        }

        boolean canPay(int more) {
            return use() + more <= limit && (parent == null || hard || parent.canPay(more));
        }

        boolean holds(Heap heap) {
            for (Thing held : registers) {
                if (held != null && held.sheet.heap == heap) {
                    return true;
                }
            }
            return false;
        }
    }

    private final List<Node> nodes = new ArrayList<>();
    private final Heap[] heaps = new Heap[13];
    private int begun = 0;

    PlainModel(int pages) {
        for (int h = 0; h < heaps.length; h++) {
            heaps[h] = new Heap();
        }
        addNode(null, pages < 4 ? 4 : pages > 24 ? 24 : pages, false);
    }

    private void addNode(Node parent, int limit, boolean hard) {
        Node node = new Node();
        node.parent = parent;
        node.limit = limit;
        node.hard = hard;
        nodes.add(node);
    }

    private boolean lives(int p) {
        return p >= 0 && p < nodes.size() && nodes.get(p).living;
    }

    private static boolean within(int value, int least, int most) {
        return value >= least && value <= most;
    }

    int spawn(int p, int limit, boolean hard) {
        if (!lives(p) || !within(limit, 1, 24)) {
            return -1;
        }
        if (nodes.size() == 8) {
            return -4;
        }
        if (hard && !nodes.get(p).canPay(limit)) {
            return -5;
        }
        addNode(nodes.get(p), limit, hard);
        return nodes.size() - 1;
    }

    boolean kill(int p) {
        if (!lives(p) || p == 0 || nodes.get(p).doomed) {
            return false;
        }
        nodes.get(p).doomed = true;
        if (!nodes.get(p).kernel) {
            die(p);
        }
        return true;
    }

    boolean mode(int p, boolean kernel) {
        if (!lives(p) || nodes.get(p).kernel == kernel) {
            return false;
        }
        nodes.get(p).kernel = kernel;
        if (nodes.get(p).doomed) {
            die(p);
        }
        return true;
    }

    private void die(int p) {
        Node node = nodes.get(p);
        node.living = false;
        java.util.Arrays.fill(node.registers, null);
        node.charged.removeIf(heap -> !heaps[p].hasItemFor(heaps[heap]));
        Heap own = heaps[p];
        Heap kernel = heaps[KERNEL];
        Set<Thing> merged = own.things();
        kernel.items.removeAll(merged);
        own.items.removeIf(thing -> thing.sheet.heap == kernel);
        kernel.items.addAll(own.items);
        own.items.clear();
        appendToKernel(own);
        if (node.building >= 0) {
            appendToKernel(heaps[node.building]);
            node.building = -1;
        }
        endHeaps();
    }

    private void appendToKernel(Heap heap) {
        for (Sheet sheet : heap.sheets) {
            sheet.heap = heaps[KERNEL];
            heaps[KERNEL].sheets.add(sheet);
        }
        heap.sheets.clear();
    }

    private void endHeaps() {
        for (int h = 9; h < 13; h++) {
            Heap heap = heaps[h];
            int number = h;
            boolean shared = nodes.stream().anyMatch(node -> node.living && node.charged.contains(number));
            if (heap.head != null && !shared && !heaps[KERNEL].hasItemFor(heap)) {
                heap.head = null;
                heap.sheets.clear();
                nodes.forEach(node -> node.charged.remove(number));
            }
        }
    }

    int collect(int h) {
        if (h != KERNEL && !lives(h)) {
            return -1;
        }
        Heap heap = heaps[h];
        Set<Thing> kept = reachable(heap);
        int before = heap.things().size();
        for (Sheet sheet : heap.sheets) {
            sheet.things.retainAll(kept);
            if (sheet.things.isEmpty()) {
                nodes.forEach(node -> node.paid.remove(sheet));
            }
        }
        heap.sheets.removeIf(sheet -> sheet.things.isEmpty());
        heap.items.removeIf(item -> kept.stream().noneMatch(thing -> List.of(named(thing)).contains(item)));
        if (h == KERNEL) {
            nodes.stream().filter(node -> !node.living)
                    .forEach(node -> node.charged.removeIf(other -> !heap.hasItemFor(heaps[other])));
        } else {
            nodes.get(h).charged.removeIf(other -> !heap.hasItemFor(heaps[other]) && !nodes.get(h).holds(heaps[other]));
        }
        endHeaps();
        return before - kept.size();
    }

    private static Thing[] named(Thing thing) {
        return java.util.Arrays.stream(thing.fields).filter(field -> field != null).toArray(Thing[]::new);
    }

    private Set<Thing> reachable(Heap heap) {
        Set<Thing> kept = new HashSet<>();
        for (Node node : nodes) {
            for (Thing held : node.registers) {
                follow(heap, held, kept);
            }
        }
        for (Heap other : heaps) {
            if (other != heap) {
                other.items.forEach(item -> follow(heap, item, kept));
            }
        }
        return kept;
    }

    private void follow(Heap heap, Thing thing, Set<Thing> kept) {
        if (thing != null && thing.sheet.heap == heap && kept.add(thing)) {
            for (Thing field : thing.fields) {
                follow(heap, field, kept);
            }
        }
    }

    int make(int p, int r, int size, int tag) {
        if (!lives(p) || !within(r, 0, 3) || !within(size, 1, 16)) {
            return -1;
        }
        int all = 0;
        for (Heap heap : heaps) {
            all += heap.things().size();
        }
        if (all == 60) {
            return -4;
        }
        Node node = nodes.get(p);
        int target = node.kernel ? KERNEL : node.building >= 0 ? node.building : p;
        Node payer = target == KERNEL ? nodes.get(0) : node;
        if (findSheet(heaps[target], size) == null && !payer.canPay(1)) {
            collect(node.kernel ? KERNEL : p);
        }
        Sheet sheet = findSheet(heaps[target], size);
        if (sheet == null) {
            if (!payer.canPay(1)) {
                return -5;
            }
            sheet = new Sheet();
            sheet.heap = heaps[target];
            heaps[target].sheets.add(sheet);
            payer.paid.add(sheet);
        }
        Thing thing = new Thing();
        thing.sheet = sheet;
        thing.size = size;
        thing.tag = tag;
        sheet.things.add(thing);
        node.registers[r] = thing;
        return 0;
    }

    private static Sheet findSheet(Heap heap, int size) {
        return heap.sheets.stream().filter(sheet -> sheet.filled() + size <= 16).findFirst().orElse(null);
    }

    private String kind(int p, Heap heap) {
        if (heap == heaps[KERNEL]) {
            return "kernel";
        }
        for (int h = 9; h < 13; h++) {
            if (heap == heaps[h]) {
                return heap.head != null ? "frozen" : "built";
            }
        }
        return heap == heaps[p] ? "own" : "foreign";
    }

    int store(int p, int r, int f, int q) {
        if (!lives(p) || !within(r, 0, 3) || !within(q, 0, 3) || !within(f, 0, 2)) {
            return -1;
        }
        Node node = nodes.get(p);
        Thing holder = node.registers[r];
        Thing named = node.registers[q];
        if (holder == null) {
            return -2;
        }
        String from = kind(p, holder.sheet.heap);
        String to = named == null ? "nothing" : kind(p, named.sheet.heap);
        List<String> allowed = switch (from) {
            case "own" -> List.of("nothing", "own", "kernel", "frozen");
            case "kernel" -> node.kernel ? List.of("nothing", "kernel", "own") : List.of();
            case "built" -> List.of("nothing", "built");
            default -> List.of();
        };
        if (!allowed.contains(to)) {
            return -3;
        }
        holder.fields[f] = named;
        if (named != null && named.sheet.heap != holder.sheet.heap) {
            holder.sheet.heap.items.add(named);
        }
        return 0;
    }

    int load(int p, int r, int q, int f) {
        if (!lives(p) || !within(r, 0, 3) || !within(q, 0, 3) || !within(f, 0, 2)) {
            return -1;
        }
        Node node = nodes.get(p);
        if (node.registers[q] == null) {
            return -2;
        }
        Thing named = node.registers[q].fields[f];
        if (named != null) {
            String kind = kind(p, named.sheet.heap);
            if (kind.equals("foreign") || kind.equals("frozen") && !shares(p, numberOf(named.sheet.heap))) {
                return -3;
            }
        }
        node.registers[r] = named;
        return 0;
    }

    private int numberOf(Heap heap) {
        return List.of(heaps).indexOf(heap);
    }

    boolean move(int p, int r, int q) {
        if (!lives(p) || !within(r, 0, 3) || !within(q, -1, 3)) {
            return false;
        }
        nodes.get(p).registers[r] = q < 0 ? null : nodes.get(p).registers[q];
        return true;
    }

    int begin(int p) {
        if (!lives(p) || nodes.get(p).building >= 0) {
            return -1;
        }
        if (begun == 4) {
            return -4;
        }
        begun++;
        nodes.get(p).building = 8 + begun;
        return 8 + begun;
    }

    int freeze(int p, int r) {
        if (!lives(p) || !within(r, 0, 3) || nodes.get(p).building < 0) {
            return -1;
        }
        Node node = nodes.get(p);
        int number = node.building;
        Thing head = node.registers[r];
        if (head == null || head.sheet.heap != heaps[number]) {
            return -1;
        }
        heaps[number].head = head;
        node.paid.removeAll(heaps[number].sheets);
        node.charged.add(number);
        node.building = -1;
        return number;
    }

    int lookup(int p, int h, int r) {
        if (!lives(p) || !within(r, 0, 3) || !within(h, 9, 12) || heaps[h].head == null) {
            return -1;
        }
        Node node = nodes.get(p);
        int cost = heaps[h].sheets.size();
        if (!node.charged.contains(h) && !node.canPay(cost)) {
            collect(p);
            if (!node.canPay(cost)) {
                return -5;
            }
        }
        node.charged.add(h);
        node.registers[r] = heaps[h].head;
        return 0;
    }

    int state(int p) {
        if (!within(p, 0, nodes.size() - 1)) {
            return 0;
        }
        Node node = nodes.get(p);
        return !node.living ? 4 : !node.kernel ? 1 : node.doomed ? 3 : 2;
    }

    int pages(int h) {
        return within(h, 0, 12) ? heaps[h].sheets.size() : 0;
    }

    int objects(int h) {
        return within(h, 0, 12) ? heaps[h].things().size() : 0;
    }

    int items(int h) {
        return within(h, 0, 12) ? heaps[h].items.size() : 0;
    }

    int use(int p) {
        return within(p, 0, nodes.size() - 1) && nodes.get(p).exists() ? nodes.get(p).use() : -1;
    }

    int room(int p) {
        if (use(p) < 0) {
            return -1;
        }
        int most = 0;
        while (nodes.get(p).canPay(most + 1)) {
            most++;
        }
        return most;
    }

    boolean shares(int p, int h) {
        return lives(p) && nodes.get(p).charged.contains(h);
    }

    int where(int p, int r) {
        if (!lives(p) || !within(r, 0, 3)) {
            return -1;
        }
        Thing held = nodes.get(p).registers[r];
        return held == null ? -2 : numberOf(held.sheet.heap);
    }

    int tag(int p, int r) {
        return where(p, r) < 0 ? 0 : nodes.get(p).registers[r].tag;
    }
}
