import java.util.Arrays;
import java.util.List;

/**
 * Every method with every mix of arguments at and around the edges that the document names, each call on a machine of its
 * own: on a new one, on a busy one, and on one that is full. The answer and all that the getters show are compared with
 * the model's; and a refused call must leave everything as it was, but for the sweep of an alloc without room.
 */
public final class EdgeArgumentsTest {
    private static final int[] REGISTERS = {
        Integer.MIN_VALUE, -1, 0, 1, 2, 3, 4, 5, 6, 7, 8, Integer.MAX_VALUE};
    private static final int[] NUMBERS = {
        Integer.MIN_VALUE, Integer.MIN_VALUE + 1, -16, -1, 0, 1, 2, 3, 4, 5, 6, 7, 8, 9, 15, 16, 17, 63, 64, 65,
        Integer.MAX_VALUE - 1, Integer.MAX_VALUE};
    private static final int[] PARTS = {
        Integer.MIN_VALUE, Integer.MIN_VALUE + 1, -1, 0, 1, 2, 3, 4, 5, Integer.MAX_VALUE - 1, Integer.MAX_VALUE};
    private static final List<String> BEGINNINGS = List.of(
        "new(16, 8)\n", Busy.MACHINE, "new(8, 8)\nalloc(3, 5) = 0\nalloc(1, 3) = 5\nfree(1) = 0\nstoreCap(3, 1) = 0\n");

    private static int calls = 0;
    private static int refusals = 0;
    private static int wrong = 0;

    private RevokeQuarantine machine;
    private Model model;

    public static void main(String[] args) {
        for (String beginning : BEGINNINGS) {
            everyMethod(beginning);
        }
        System.out.println(calls + " calls, " + refusals + " of them refused, " + wrong + " not as due");
        if (wrong != 0 || refusals == 0) {
            System.exit(1);
        }
    }

    private static void everyMethod(String beginning) {
        every(beginning, "alloc", REGISTERS, NUMBERS);
        every(beginning, "free", REGISTERS);
        every(beginning, "sweep");
        every(beginning, "move", REGISTERS, REGISTERS);
        every(beginning, "restrict", REGISTERS, REGISTERS, PARTS, PARTS);
        every(beginning, "addAddr", REGISTERS, NUMBERS);
        every(beginning, "storeData", REGISTERS, NUMBERS);
        every(beginning, "loadData", REGISTERS);
        every(beginning, "storeCap", REGISTERS, REGISTERS);
        every(beginning, "loadCap", REGISTERS, REGISTERS);
        every(beginning, "loadedValue");
        every(beginning, "reg", REGISTERS, NUMBERS);
        every(beginning, "mem", NUMBERS, NUMBERS);
        every(beginning, "stat", NUMBERS);
    }

    private static void every(String beginning, String name, int[]... choices) {
        int mixes = 1;
        for (int[] choice : choices) {
            mixes *= choice.length;
        }
        for (int mix = 0; mix < mixes; mix++) {
            int[] arguments = new int[choices.length];
            int rest = mix;
            for (int at = 0; at < choices.length; at++) {
                arguments[at] = choices[at][rest % choices[at].length];
                rest /= choices[at].length;
            }
            new EdgeArgumentsTest().call(beginning, name, arguments);
        }
    }

    private void call(String beginning, String name, int[] arguments) {
        begin(beginning);
        int heap = model.heap();
        int[] before = model.seen();
        int got = Calls.make(machine, name, arguments);
        int want = model.call(name, arguments);
        int[] after = Seen.of(machine, heap);
        String differences = Seen.differences(Seen.names(heap), after, model.seen());
        boolean mayHaveSwept = name.equals("alloc") && got == RevokeQuarantine.NO_SPACE;
        if (got < 0 && !mayHaveSwept) {
            refusals++;
            differences += Seen.differences(Seen.names(heap), after, before);
        }
        calls++;
        if (got != want || !differences.isEmpty()) {
            wrong++;
            System.out.println(name + Arrays.toString(arguments) + " answered " + got + ", due is " + want + differences);
        }
    }

    private void begin(String beginning) {
        for (String line : beginning.split("\n")) {
            int open = line.indexOf('(');
            String name = line.substring(0, open);
            int[] arguments = Script.numbers(line.substring(open + 1, line.indexOf(')')));
            if (name.equals("new")) {
                machine = new RevokeQuarantine(arguments[0], arguments[1]);
                model = new Model(arguments[0], arguments[1]);
            } else {
                Calls.make(machine, name, arguments);
                model.call(name, arguments);
            }
        }
    }
}
