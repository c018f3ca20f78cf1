import java.util.Arrays;
import java.util.List;
import java.util.Map;
import java.util.TreeMap;

/** Long mixed runs of calls, the same ones each time, on the machine and on the model beside it. */
public final class LongRunsTest {
    private static final int[][] SIZES = {
        {8, 1}, {8, 4}, {8, 64}, {9, 5}, {16, 8}, {16, 64}, {33, 12}, {64, 1}, {64, 16}, {64, 64}, {0, 0}, {100, 100}};
    private static final int CALLS = 4000;
    private static final int SEEDS = 4;
    private static final String[] NAMES = {
        "alloc", "alloc", "alloc", "free", "free", "sweep", "move", "move", "restrict", "restrict", "addAddr",
        "addAddr", "storeData", "loadData", "loadData", "storeCap", "storeCap", "storeCap", "loadCap"};
    private static final int[] EXTREMES = {
        Integer.MIN_VALUE, Integer.MIN_VALUE + 1, -1, 0, 8, 64, 65, Integer.MAX_VALUE - 1, Integer.MAX_VALUE};

    private static final Map<String, Integer> answers = new TreeMap<>();
    private static long state;
    private static int wrong = 0;

    public static void main(String[] args) {
        for (int seed = 1; seed <= SEEDS; seed++) {
            for (int[] size : SIZES) {
                state = seed * 1000003L + size[0] * 131L + size[1];
                run(size);
            }
        }
        everyAnswerCame();
        System.out.println("long runs: " + wrong + " not as due");
        if (wrong != 0) {
            System.exit(1);
        }
    }

    private static void run(int[] size) {
        RevokeQuarantine machine = new RevokeQuarantine(size[0], size[1]);
        Model model = new Model(size[0], size[1]);
        int heap = model.heap();
        List<String> names = Seen.names(heap);
        for (int step = 0; step < CALLS; step++) {
            String name = NAMES[below(NAMES.length)];
            int[] arguments = arguments(name, machine, heap);
            int want = model.call(name, arguments);
            int got = Calls.make(machine, name, arguments);
            String differences = Seen.differences(names, Seen.of(machine, heap), model.seen()) + astray(machine, heap);
            if (got != want || !differences.isEmpty()) {
                wrong++;
                System.out.println("heap and threshold " + Arrays.toString(size) + ", call " + step + ": " + name
                    + Arrays.toString(arguments) + " answered " + got + ", due is " + want + differences);
                return;
            }
            answers.merge(name + " " + Math.min(got, 1), 1, Integer::sum);
        }
    }

    /** Tells of a tagged capability that doesn't lie within one block: EdgesOutOfReachTest stands on there being none. */
    private static String astray(RevokeQuarantine machine, int heap) {
        StringBuilder text = new StringBuilder();
        for (int r = 0; r < Seen.REGISTERS; r++) {
            int base = machine.reg(r, RevokeQuarantine.F_BASE);
            int len = machine.reg(r, RevokeQuarantine.F_LEN);
            if (machine.reg(r, RevokeQuarantine.F_TAG) == 1 && !isWithinOneBlock(machine, heap, base, len)) {
                text.append("; register ").append(r).append(" is astray");
            }
        }
        for (int w = 0; w < heap; w++) {
            int base = machine.mem(w, RevokeQuarantine.F_BASE);
            int len = machine.mem(w, RevokeQuarantine.F_LEN);
            if (machine.mem(w, RevokeQuarantine.F_TAG) == 1 && !isWithinOneBlock(machine, heap, base, len)) {
                text.append("; word ").append(w).append(" is astray");
            }
        }
        return text.toString();
    }

    private static boolean isWithinOneBlock(RevokeQuarantine machine, int heap, int base, int len) {
        if (base < 0 || len < 1 || len > heap || base > heap - len) {
            return false;
        }
        int owner = machine.mem(base, RevokeQuarantine.F_OWNER);
        for (int w = base; w < base + len; w++) {
            if (machine.mem(w, RevokeQuarantine.F_OWNER) != owner) {
                return false;
            }
        }
        return owner != 0;
    }

    /** A run that never meets an answer says nothing of it, so that its absence is a fault of the test. */
    private static void everyAnswerCame() {
        List<String> due = List.of(
            "alloc 1", "alloc -1", "alloc -2", "alloc -3", "free 0", "free 1", "free -1", "free -4", "free -6",
            "sweep 0", "sweep 1", "move 0", "move -1", "restrict 0", "restrict -1", "restrict -4", "restrict -7",
            "addAddr 0", "addAddr -1", "storeData 0", "storeData -1", "storeData -4", "storeData -5", "loadData 0",
            "loadData -1", "loadData -4", "loadData -5", "storeCap 0", "storeCap -1", "storeCap -4", "storeCap -5",
            "loadCap 0", "loadCap -1", "loadCap -4", "loadCap -5");
        for (String answer : due) {
            if (answers.getOrDefault(answer, 0) < 10) {
                wrong++;
                System.out.println("too seldom in the runs: " + answer);
            }
        }
    }

    private static int[] arguments(String name, RevokeQuarantine machine, int heap) {
        switch (name) {
            case "sweep":
                return new int[] {};
            case "alloc":
                return new int[] {register(), rarely() ? extreme() : 1 + below(1 + below(heap))};
            case "restrict":
                return new int[] {register(), register(), rarely() ? extreme() : below(4),
                    rarely() ? extreme() : 1 + below(6)};
            case "addAddr":
                return delta(register(), machine);
            case "storeData":
                return new int[] {register(), rarely() ? extreme() : below(100)};
            case "free":
            case "loadData":
                return new int[] {register()};
            default:
                return new int[] {register(), register()};
        }
    }

    /** Mostly back to some address near the bounds, since a lost address would make every later access a fault. */
    private static int[] delta(int r, RevokeQuarantine machine) {
        if (rarely()) {
            return new int[] {r, extreme()};
        }
        int near = machine.reg(r, RevokeQuarantine.F_BASE) - 1 + below(machine.reg(r, RevokeQuarantine.F_LEN) + 3);
        return new int[] {r, near - machine.reg(r, RevokeQuarantine.F_ADDR)};
    }

    private static int register() {
        return below(40) == 0 ? extreme() : below(8);
    }

    private static boolean rarely() {
        return below(15) == 0;
    }

    private static int extreme() {
        return EXTREMES[below(EXTREMES.length)];
    }

    private static int below(int bound) {
        state = state * 6364136223846793005L + 1442695040888963407L;
        return (int) ((state >>> 33) % bound);
    }
}
