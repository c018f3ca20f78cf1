import java.util.ArrayList;
import java.util.HashMap;
import java.util.List;
import java.util.Map;

/**
 * The document once more, written in another way, for long runs to be compared with: capabilities are values, and a
 * block is found by its serial with its start and size rather than by looking over the words.
 */
final class Model {
    private record Cap(boolean tag, int base, int len, int addr) {
        static final Cap NULL = new Cap(false, 0, 0, 0);

        Cap untagged() {
            return new Cap(false, base, len, addr);
        }
    }

    private record Block(int start, int size) {
    }

    private final int heap;
    private final int threshold;
    private final List<Cap> regs = new ArrayList<>();
    private final List<Cap> words = new ArrayList<>();
    private final int[] owners;
    private final Map<Integer, Block> live = new HashMap<>();
    private final Map<Integer, Block> quarantined = new HashMap<>();
    private int allocs = 0;
    private int sweeps = 0;
    private int loaded = 0;

    Model(int heapWords, int thresholdWords) {
        heap = Math.max(8, Math.min(64, heapWords));
        threshold = Math.max(1, Math.min(64, thresholdWords));
        owners = new int[heap];
        for (int r = 0; r < 8; r++) {
            regs.add(Cap.NULL);
        }
        for (int w = 0; w < heap; w++) {
            words.add(Cap.NULL);
        }
    }

    int heap() {
        return heap;
    }

    int call(String name, int[] a) {
        switch (name) {
            case "alloc": return alloc(a[0], a[1]);
            case "free": return free(a[0]);
            case "sweep": return sweep();
            case "move": return move(a[0], a[1]);
            case "restrict": return restrict(a[0], a[1], a[2], a[3]);
            case "addAddr": return addAddr(a[0], a[1]);
            case "storeData": return store(a[0], 0, new Cap(false, 0, 0, a[1]));
            case "loadData": return loadData(a[0]);
            case "storeCap": return store(a[0], a[1], isReg(a[1]) ? regs.get(a[1]) : Cap.NULL);
            case "loadCap": return loadCap(a[0], a[1]);
            case "loadedValue": return loaded;
            case "reg": return shown(Seen.STATS.length + 1, a[0], 8, a[1], 4);
            case "mem": return shown(Seen.STATS.length + 1 + 8 * 4, a[0], heap, a[1], 6);
            case "stat": return shown(0, 0, 1, a[0], 8);
            default: throw new IllegalArgumentException(name);
        }
    }

    /** The same row as Seen.of gives for the machine. */
    int[] seen() {
        int quar = quarantined.values().stream().mapToInt(Block::size).sum();
        int alive = live.values().stream().mapToInt(Block::size).sum();
        List<Integer> row = new ArrayList<>(List.of(
            heap - quar - alive, quar, alive, sweeps, largest(), allocs, heap, threshold, loaded));
        for (Cap cap : regs) {
            row.addAll(List.of(cap.tag ? 1 : 0, cap.base, cap.len, cap.addr));
        }
        for (int w = 0; w < heap; w++) {
            Cap cap = words.get(w);
            row.addAll(List.of(cap.tag ? 1 : 0, cap.base, cap.len, cap.addr, owners[w], state(w)));
        }
        return row.stream().mapToInt(Integer::intValue).toArray();
    }

    /** What stands in the row in a table of these sizes, or -1 where the table has no such place. */
    private int shown(int from, int line, int lines, int column, int columns) {
        boolean isThere = line >= 0 && line < lines && column >= 0 && column < columns;
        return isThere ? seen()[from + line * columns + column] : -1;
    }

    private int state(int w) {
        if (owners[w] == 0) {
            return 0;
        }
        return live.containsKey(owners[w]) ? 1 : 2;
    }

    private static boolean isReg(int r) {
        return 0 <= r && r <= 7;
    }

    private boolean fits(int a, int n) {
        for (int w = a; w < a + n; w++) {
            if (w >= heap || owners[w] != 0) {
                return false;
            }
        }
        return true;
    }

    private int firstFit(int n) {
        for (int a = 0; a <= heap - n; a++) {
            if (fits(a, n)) {
                return a;
            }
        }
        return -1;
    }

    private int largest() {
        int n = heap;
        while (n > 0 && firstFit(n) < 0) {
            n--;
        }
        return n;
    }

    private int alloc(int rd, int n) {
        if (!isReg(rd)) {
            return -1;
        }
        if (n < 1 || n > heap) {
            return -2;
        }
        if (firstFit(n) < 0 && !quarantined.isEmpty()) {
            sweep();
        }
        int a = firstFit(n);
        if (a < 0) {
            return -3;
        }
        allocs++;
        live.put(allocs, new Block(a, n));
        for (int w = a; w < a + n; w++) {
            owners[w] = allocs;
            words.set(w, Cap.NULL);
        }
        regs.set(rd, new Cap(true, a, n, a));
        return a;
    }

    private int free(int r) {
        if (!isReg(r)) {
            return -1;
        }
        Cap cap = regs.get(r);
        if (!cap.tag) {
            return -4;
        }
        if (!live.containsValue(new Block(cap.base, cap.len))) {
            return -6;
        }
        int serial = owners[cap.base];
        quarantined.put(serial, live.remove(serial));
        if (quarantined.values().stream().mapToInt(Block::size).sum() < threshold) {
            return 0;
        }
        sweep();
        return 1;
    }

    private boolean revoked(Cap cap) {
        return cap.tag && quarantined.values().stream()
            .anyMatch(block -> block.start <= cap.base && cap.base < block.start + block.size);
    }

    private int sweep() {
        long count = regs.stream().filter(this::revoked).count() + words.stream().filter(this::revoked).count();
        regs.replaceAll(cap -> revoked(cap) ? cap.untagged() : cap);
        words.replaceAll(cap -> revoked(cap) ? cap.untagged() : cap);
        for (Block block : quarantined.values()) {
            for (int w = block.start; w < block.start + block.size; w++) {
                owners[w] = 0;
                words.set(w, Cap.NULL);
            }
        }
        quarantined.clear();
        sweeps++;
        return (int) count;
    }

    private int move(int rd, int rs) {
        if (!isReg(rd) || !isReg(rs)) {
            return -1;
        }
        regs.set(rd, regs.get(rs));
        return 0;
    }

    private int restrict(int rd, int rs, int off, int len) {
        if (!isReg(rd) || !isReg(rs)) {
            return -1;
        }
        Cap cap = regs.get(rs);
        if (!cap.tag) {
            return -4;
        }
        if (off < 0 || len < 1 || (long) off + len > cap.len) {
            return -7;
        }
        regs.set(rd, new Cap(true, cap.base + off, len, cap.base + off));
        return 0;
    }

    private int addAddr(int r, int delta) {
        if (!isReg(r)) {
            return -1;
        }
        Cap cap = regs.get(r);
        regs.set(r, new Cap(cap.tag, cap.base, cap.len, cap.addr + delta));
        return 0;
    }

    private int fault(int r) {
        Cap cap = regs.get(r);
        if (!cap.tag) {
            return -4;
        }
        long past = (long) cap.addr - cap.base;
        return past >= 0 && past < cap.len && cap.addr >= 0 && cap.addr < heap ? 0 : -5;
    }

    private int store(int r, int rs, Cap cap) {
        if (!isReg(r) || !isReg(rs)) {
            return -1;
        }
        int fault = fault(r);
        if (fault == 0) {
            words.set(regs.get(r).addr, cap);
        }
        return fault;
    }

    private int loadData(int r) {
        if (!isReg(r)) {
            return -1;
        }
        int fault = fault(r);
        if (fault == 0) {
            loaded = words.get(regs.get(r).addr).addr;
        }
        return fault;
    }

    private int loadCap(int rd, int r) {
        if (!isReg(rd) || !isReg(r)) {
            return -1;
        }
        int fault = fault(r);
        if (fault == 0) {
            regs.set(rd, words.get(regs.get(r).addr));
        }
        return fault;
    }
}
