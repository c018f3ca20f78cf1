import java.util.Arrays;
import java.util.List;
import java.util.regex.Matcher;
import java.util.regex.Pattern;

/**
 * Runs written calls on a new machine and looks, after each one, at the answer and at all that the getters show.
 *
 * <p>A run begins with 'new(heapWords, threshold)'; behind it stand 'heap=' and 'threshold=' where they are not the
 * arguments themselves. Every other line is 'call = answer', and behind bars what the call changes, as in
 * 'alloc(0, 4) = 0 | r0 tag=1 len=4 | w0-3 owner=1 state=LIVE | free=4 live=4 largest=4 allocs=1'. What isn't named
 * must not change; '| *' lets a line of mere preparation change what it likes. A line 'plant()' puts what stands behind
 * its bars into the machine by force. A line that begins with '#' is a remark.
 */
final class Script {
    private static final Pattern CALL = Pattern.compile("(\\w+)\\(([^)]*)\\)(?: = (\\S+))?");

    private int calls = 0;
    private int wrong = 0;
    private String title;
    private RevokeQuarantine machine;
    private List<String> names;
    private int heap;
    private int[] due;
    private boolean planting;

    void run(String runTitle, String text) {
        title = runTitle;
        machine = null;
        for (String line : text.split("\n")) {
            if (!line.isBlank() && !line.startsWith("#")) {
                line(line.trim());
            }
        }
    }

    /** Ends the test: with exit code 1 if an answer or a change was not the one that is due. */
    void end() {
        System.out.println(calls + " calls, " + wrong + " not as due");
        if (wrong != 0 || calls == 0) {
            System.exit(1);
        }
    }

    private void line(String line) {
        String[] parts = line.split("\\s*\\|\\s*");
        Matcher call = CALL.matcher(parts[0]);
        if (!call.matches()) {
            throw new IllegalArgumentException(line);
        }
        int[] arguments = numbers(call.group(2));
        String[] changes = Arrays.copyOfRange(parts, 1, parts.length);
        calls++;
        planting = call.group(1).equals("plant");
        if (call.group(1).equals("new")) {
            begin(line, arguments, changes);
        } else if (planting) {
            step(line, 0, 0, changes);
        } else {
            step(line, Calls.make(machine, call.group(1), arguments), number(call.group(3)), changes);
        }
    }

    private void begin(String line, int[] arguments, String[] changes) {
        machine = new RevokeQuarantine(arguments[0], arguments[1]);
        heap = arguments[0];
        int threshold = arguments[1];
        for (String change : changes) {
            for (String word : change.split(" ")) {
                String[] sides = word.split("=");
                heap = sides[0].equals("heap") ? number(sides[1]) : heap;
                threshold = sides[0].equals("threshold") ? number(sides[1]) : threshold;
            }
        }
        names = Seen.names(heap);
        due = new int[names.size()];
        set("free", heap);
        set("largest", heap);
        set("heap", heap);
        set("threshold", threshold);
        compare(line, "");
    }

    private void step(String line, int got, int want, String[] changes) {
        boolean anyChange = changes.length == 1 && changes[0].equals("*");
        if (anyChange) {
            due = Seen.of(machine, heap);
        } else {
            for (String change : changes) {
                apply(change);
            }
        }
        compare(line, got == want ? "" : "; answered " + got + ", due is " + want);
    }

    private void compare(String line, String wrongAnswer) {
        int[] got = Seen.of(machine, heap);
        String differences = wrongAnswer + Seen.differences(names, got, due);
        if (!differences.isEmpty()) {
            wrong++;
            System.out.println(title + ": " + line + differences);
        }
        due = got;
    }

    private void apply(String change) {
        String subject = "";
        for (String word : change.split(" ")) {
            String[] sides = word.split("=");
            if (sides.length == 1) {
                subject = word;
            } else if (subject.contains("-")) {
                setRange(subject, sides[0], number(sides[1]));
            } else {
                set((subject + " " + sides[0]).trim(), number(sides[1]));
            }
        }
    }

    private void setRange(String subject, String field, int value) {
        String[] ends = subject.substring(1).split("-");
        for (int at = number(ends[0]); at <= number(ends[1]); at++) {
            set(subject.charAt(0) + "" + at + " " + field, value);
        }
    }

    private void set(String name, int value) {
        int at = names.indexOf(name);
        if (at < 0) {
            throw new IllegalArgumentException(name);
        }
        due[at] = value;
        if (planting) {
            Planted.set(machine, name, value);
        }
    }

    static int[] numbers(String text) {
        if (text.isBlank()) {
            return new int[0];
        }
        return Arrays.stream(text.split(",")).mapToInt(word -> number(word.trim())).toArray();
    }

    private static int number(String word) {
        if (word.equals("MAX")) {
            return Integer.MAX_VALUE;
        }
        if (word.equals("MIN")) {
            return Integer.MIN_VALUE;
        }
        if (word.matches("-?\\d+")) {
            return Integer.parseInt(word);
        }
        try {
            return RevokeQuarantine.class.getField(word).getInt(null);
        } catch (ReflectiveOperationException e) {
            throw new IllegalArgumentException(word, e);
        }
    }
}
