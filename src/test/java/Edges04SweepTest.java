/** The edges that promise 4 names. A run bears the sentence that it tests. */
public final class Edges04SweepTest {
    public static void main(String[] args) {
        Script script = new Script();
        nothingToSweep(script);
        counts(script);
        nothingElse(script);
        script.end();
    }

    private static void nothingToSweep(Script script) {
        String sentence = "`sweep()` always runs a sweep, also when nothing is QUAR, and answers its count c (zero or more).";
        script.run(sentence, """
            new(8, 1)
            sweep() = 0 | sweeps=1
            sweep() = 0 | sweeps=2
            """);
        script.run(sentence, """
            new(8, 64)
            alloc(0, 8) = 0 | *
            storeCap(0, 0) = OK | *
            # the heap is full of live words
            sweep() = 0 | sweeps=1
            """);
        script.run(sentence, Busy.MACHINE + "sweep() = 4" + Busy.SWEPT + """
            sweep() = 0 | sweeps=3
            sweep() = 0 | sweeps=4
            """);
    }

    private static void counts(Script script) {
        String sentence = "answers its count c (zero or more)";
        script.run(sentence, """
            new(8, 64)
            alloc(0, 2) = 0 | *
            free(0) = OK | *
            move(0, 7) = OK | *
            # words in quarantine to which no capability is left
            sweep() = 0 | w0-1 owner=0 state=FREE | quar=0 free=8 largest=8 sweeps=1
            """);
        script.run(sentence, """
            new(8, 64)
            alloc(0, 2) = 0 | *
            free(0) = OK | *
            sweep() = 1 | r0 tag=0 | w0-1 owner=0 state=FREE | quar=0 free=8 largest=8 sweeps=1
            """);
        script.run(sentence, """
            new(8, 64)
            alloc(0, 2) = 0 | *
            alloc(1, 2) = 2 | *
            storeCap(1, 0) = OK | *
            free(0) = OK | *
            move(0, 7) = OK | *
            # in a word alone
            sweep() = 1 | w0-1 owner=0 state=FREE | w2 tag=0 | quar=0 free=6 sweeps=1
            """);
        script.run(sentence, allRegistersAndWords());
    }

    /** The greatest count that there can be: 8 registers and 64 words. */
    private static String allRegistersAndWords() {
        StringBuilder text = new StringBuilder("new(64, 64)\nalloc(0, 63) = 0 | *\nmove(1, 0) = OK | *\nalloc(2, 1) = 63 | *\n");
        text.append("storeCap(2, 0) = OK | *\n");
        for (int w = 0; w < 63; w++) {
            text.append("storeCap(1, 0) = OK | *\naddAddr(1, 1) = OK | *\n");
        }
        for (int r = 1; r < 8; r++) {
            text.append("move(").append(r).append(", 0) = OK | *\n");
        }
        return text.append("free(0) = OK | w0-62 state=QUAR | quar=63 live=1\n")
            .append("sweep() = 72 | r0-7 tag=0 | w63 tag=0 | w0-62 tag=0 base=0 len=0 value=0 owner=0 state=FREE")
            .append(" | quar=0 free=63 largest=63 sweeps=1\n").toString();
    }

    private static void nothingElse(Script script) {
        script.run("It always adds 1 to sweeps.", """
            new(8, 64)
            alloc(0, 1) = 0 | *
            alloc(1, 1) = 1 | *
            free(0) = OK | *
            free(1) = OK | *
            # two blocks, two capabilities, one sweep
            sweep() = 2 | r0-1 tag=0 | w0-1 owner=0 state=FREE | quar=0 free=8 largest=8 sweeps=1
            sweep() = 0 | sweeps=2
            """);
        script.run("It never changes allocs, loaded, owners of LIVE words, or register and word fields other than those "
            + "named in the sweep steps.", Busy.MACHINE + "sweep() = 4" + Busy.SWEPT + """
            stat(STAT_ALLOCS) = 4
            loadedValue() = 41
            mem(2, F_OWNER) = 2
            mem(2, F_ADDR) = 41
            mem(5, F_TAG) = 1
            mem(6, F_ADDR) = 10
            mem(8, F_OWNER) = 3
            mem(8, F_LEN) = 2
            reg(3, F_ADDR) = 10
            reg(5, F_BASE) = 3
            reg(6, F_ADDR) = -5
            """);
    }
}
