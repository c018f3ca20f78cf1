import java.util.ArrayList;
import java.util.List;

/** All that the getters show of a machine, as one row of numbers with a name for each place. */
final class Seen {
    static final String[] STATS = {"free", "quar", "live", "sweeps", "largest", "allocs", "heap", "threshold"};
    static final String[] REG_FIELDS = {"tag", "base", "len", "addr"};
    static final String[] WORD_FIELDS = {"tag", "base", "len", "value", "owner", "state"};
    static final int REGISTERS = 8;

    private Seen() {
    }

    static List<String> names(int heap) {
        List<String> names = new ArrayList<>(List.of(STATS));
        names.add("loaded");
        for (int r = 0; r < REGISTERS; r++) {
            for (String field : REG_FIELDS) {
                names.add("r" + r + " " + field);
            }
        }
        for (int w = 0; w < heap; w++) {
            for (String field : WORD_FIELDS) {
                names.add("w" + w + " " + field);
            }
        }
        return names;
    }

    static int[] of(RevokeQuarantine x, int heap) {
        int[] row = new int[STATS.length + 1 + REGISTERS * REG_FIELDS.length + heap * WORD_FIELDS.length];
        int at = 0;
        for (int kind = 0; kind < STATS.length; kind++) {
            row[at++] = x.stat(kind);
        }
        row[at++] = x.loadedValue();
        for (int r = 0; r < REGISTERS; r++) {
            for (int field = 0; field < REG_FIELDS.length; field++) {
                row[at++] = x.reg(r, field);
            }
        }
        for (int w = 0; w < heap; w++) {
            for (int field = 0; field < WORD_FIELDS.length; field++) {
                row[at++] = x.mem(w, field);
            }
        }
        return row;
    }

    static String differences(List<String> names, int[] got, int[] due) {
        StringBuilder text = new StringBuilder();
        for (int at = 0; at < due.length; at++) {
            if (got[at] != due[at]) {
                text.append("; ").append(names.get(at)).append(" is ").append(got[at]).append(", due is ").append(due[at]);
            }
        }
        return text.toString();
    }
}
