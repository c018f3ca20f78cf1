/** The edges that promise 14 names. A run bears the sentence that it tests. */
public final class Edges14StatTest {
    public static void main(String[] args) {
        Script script = new Script();
        script.run("if kind is not in `STAT_FREE`..`STAT_THRESHOLD` (0..7), the answer is -1", Busy.MACHINE + """
            stat(-1) = -1
            stat(8) = -1
            stat(9) = -1
            stat(MIN) = -1
            stat(MAX) = -1
            """);
        script.run("Otherwise it answers", Busy.MACHINE + """
            stat(STAT_FREE) = 7
            stat(STAT_QUAR) = 2
            stat(STAT_LIVE) = 7
            stat(STAT_SWEEPS) = 1
            stat(STAT_LARGEST) = 5
            stat(STAT_ALLOCS) = 4
            stat(STAT_HEAP) = 16
            stat(STAT_THRESHOLD) = 8
            """);
        counts(script);
        longestRun(script);
        serials(script);
        script.end();
    }

    private static void counts(Script script) {
        String sentence = "the number of FREE words, of QUAR words, of LIVE words (these three always add up to H)";
        for (int heap : new int[] {8, 64}) {
            script.run(sentence, """
                new($h, 64)
                stat(STAT_FREE) = $h
                alloc(0, 1) = 0 | *
                alloc(1, $rest) = 1 | *
                # all live, none free
                stat(STAT_FREE) = 0
                stat(STAT_LIVE) = $h
                stat(STAT_QUAR) = 0
                free(1) = OK | *
                stat(STAT_FREE) = 0
                stat(STAT_LIVE) = 1
                stat(STAT_QUAR) = $rest
                sweep() = 1 | *
                stat(STAT_FREE) = $rest
                stat(STAT_LIVE) = 1
                stat(STAT_QUAR) = 0
                """.replace("$h", "" + heap).replace("$rest", "" + (heap - 1)));
        }
        script.run(sentence, """
            new(8, 64)
            alloc(0, 8) = 0 | *
            free(0) = OK | *
            # all in quarantine
            stat(STAT_FREE) = 0
            stat(STAT_LIVE) = 0
            stat(STAT_QUAR) = 8
            stat(STAT_LARGEST) = 0
            """);
    }

    private static void longestRun(Script script) {
        String sentence = "the length of the longest run of consecutive FREE words (0 when no word is FREE)";
        script.run(sentence, """
            new(8, 64)
            stat(STAT_LARGEST) = 8
            alloc(0, 8) = 0 | *
            stat(STAT_LARGEST) = 0
            """);
        script.run(sentence, """
            new(8, 64)
            alloc(0, 7) = 0 | *
            # the last word alone
            stat(STAT_LARGEST) = 1
            alloc(1, 1) = 7 | *
            stat(STAT_LARGEST) = 0
            free(0) = OK | *
            stat(STAT_LARGEST) = 0
            sweep() = 1 | *
            # all but the last word
            stat(STAT_LARGEST) = 7
            """);
        script.run(sentence, """
            new(8, 64)
            alloc(0, 3) = 0 | *
            alloc(1, 1) = 3 | *
            free(0) = OK | *
            sweep() = 1 | *
            # three words at one end and four at the other: the heap is no ring
            stat(STAT_LARGEST) = 4
            alloc(2, 4) = 4 | *
            stat(STAT_LARGEST) = 3
            """);
        script.run(sentence, """
            new(16, 64)
            alloc(0, 2) = 0 | *
            alloc(1, 2) = 2 | *
            alloc(2, 3) = 4 | *
            alloc(3, 2) = 7 | *
            alloc(4, 2) = 9 | *
            alloc(5, 5) = 11 | *
            free(0) = OK | *
            free(2) = OK | *
            free(4) = OK | *
            sweep() = 3 | *
            # runs of 2, 3 and 2, the longest in the middle; then the middle is put in quarantine again
            stat(STAT_LARGEST) = 3
            alloc(6, 3) = 4 | *
            free(6) = OK | *
            stat(STAT_LARGEST) = 2
            # a word in quarantine parts two free runs
            free(3) = OK | *
            stat(STAT_LARGEST) = 2
            sweep() = 2 | *
            stat(STAT_LARGEST) = 7
            """);
    }

    private static void serials(Script script) {
        script.run("allocs, which is the serial of the latest block", """
            new(8, 1)
            stat(STAT_ALLOCS) = 0
            alloc(0, 1) = 0 | *
            stat(STAT_ALLOCS) = 1
            mem(0, F_OWNER) = 1
            free(0) = OK_SWEPT | *
            stat(STAT_ALLOCS) = 1
            alloc(0, 8) = 0 | *
            stat(STAT_ALLOCS) = 2
            mem(7, F_OWNER) = 2
            # refused, each in its way
            alloc(0, 1) = NO_SPACE
            alloc(0, 9) = BAD_SIZE
            alloc(8, 1) = BAD_REG
            stat(STAT_ALLOCS) = 2
            """);
        script.run("It changes nothing.", Busy.MACHINE + """
            stat(STAT_SWEEPS) = 1
            stat(STAT_SWEEPS) = 1
            stat(STAT_ALLOCS) = 4
            stat(STAT_ALLOCS) = 4
            """);
    }
}
