/** The edges that promise 2 names. A run bears the sentence that it tests. */
public final class Edges02AllocTest {
    public static void main(String[] args) {
        Script script = new Script();
        refused(script);
        whenASweepRuns(script);
        whenNoSweepRuns(script);
        noSpace(script);
        smallestAndLargest(script);
        whatIsOverwritten(script);
        script.end();
    }

    /** Each of these sizes would fit, or would run a sweep, if the call weren't refused. */
    private static void refused(Script script) {
        script.run("rd not in 0..7: answer `BAD_REG`, nothing changes.", Busy.MACHINE + """
            alloc(-1, 5) = BAD_REG
            alloc(8, 5) = BAD_REG
            alloc(-1, 6) = BAD_REG
            alloc(8, 6) = BAD_REG
            alloc(8, 16) = BAD_REG
            alloc(MIN, 16) = BAD_REG
            alloc(MAX, 16) = BAD_REG
            """);
        script.run("n < 1 or n > H: answer `BAD_SIZE`, nothing changes.", Busy.MACHINE + """
            alloc(0, 0) = BAD_SIZE
            alloc(1, -1) = BAD_SIZE
            alloc(2, MIN) = BAD_SIZE
            alloc(3, 17) = BAD_SIZE
            alloc(4, 64) = BAD_SIZE
            alloc(7, MAX) = BAD_SIZE
            """);
        script.run("`alloc(rd, n)` tests in order", Busy.MACHINE + """
            alloc(-1, 0) = BAD_REG
            alloc(8, 17) = BAD_REG
            alloc(MAX, MAX) = BAD_REG
            alloc(MIN, MIN) = BAD_REG
            """);
        script.run("n > H: answer `BAD_SIZE`", """
            new(64, 64)
            alloc(0, 65) = BAD_SIZE
            alloc(0, 64) = 0 | r0 tag=1 len=64 | w0-63 owner=1 state=LIVE | free=0 live=64 largest=0 allocs=1
            # too large before too full
            alloc(1, 65) = BAD_SIZE
            alloc(1, 64) = NO_SPACE
            """);
    }

    private static void whenASweepRuns(Script script) {
        String sentence = "If there is none and the number of QUAR words is greater than 0, a sweep runs, "
            + "and the first fit is taken again.";
        script.run(sentence, Busy.MACHINE + """
            # one word more than the longest run of free words
            alloc(7, 6) = 9 | r3 tag=0 | r4 tag=0 | r7 tag=1 base=9 len=6 addr=9 | w6 tag=0 \
                | w9 tag=0 base=0 len=0 | w9-10 value=0 | w9-14 owner=5 state=LIVE \
                | quar=0 free=3 live=13 largest=2 sweeps=2 allocs=5
            """);
        script.run(sentence, Busy.MACHINE + """
            # just what there is after the sweep
            alloc(7, 7) = 9 | r3 tag=0 | r4 tag=0 | r7 tag=1 base=9 len=7 addr=9 | w6 tag=0 \
                | w9 tag=0 base=0 len=0 | w9-10 value=0 | w9-15 owner=5 state=LIVE \
                | quar=0 free=2 live=14 largest=2 sweeps=2 allocs=5
            """);
        script.run(sentence, """
            new(8, 64)
            alloc(0, 7) = 0 | *
            alloc(1, 1) = 7 | *
            # a quarantine of a single word
            free(1) = OK | w7 state=QUAR | quar=1 live=7
            alloc(2, 1) = 7 | r1 tag=0 | r2 tag=1 base=7 len=1 addr=7 | w7 owner=3 state=LIVE \
                | quar=0 live=8 sweeps=1 allocs=3
            """);
        script.run("the first fit is taken again", """
            new(16, 64)
            alloc(0, 3) = 0 | *
            alloc(1, 4) = 3 | *
            alloc(2, 2) = 7 | *
            free(0) = OK | *
            free(2) = OK | *
            alloc(3, 7) = 9 | *
            # 0-2 and 7-8 are in quarantine, nothing is free: the lowest place after the sweep is taken
            alloc(4, 2) = 0 | r0 tag=0 | r2 tag=0 | r4 tag=1 len=2 | w0-1 owner=5 state=LIVE \
                | w2 owner=0 state=FREE | w7-8 owner=0 state=FREE | quar=0 free=3 live=13 largest=2 sweeps=1 allocs=5
            """);
        script.run("the first fit is taken again", """
            new(8, 64)
            alloc(0, 8) = 0 | *
            free(0) = OK | w0-7 state=QUAR | quar=8 live=0
            # the whole heap is in quarantine, and the whole heap is asked for
            alloc(7, 8) = 0 | r0 tag=0 | r7 tag=1 len=8 | w0-7 owner=2 state=LIVE | quar=0 live=8 sweeps=1 allocs=2
            """);
    }

    private static void whenNoSweepRuns(Script script) {
        script.run("Then it takes the first fit for n.", Busy.MACHINE + """
            # the longest run of free words is wide enough, whatever lies in quarantine
            alloc(7, 5) = 11 | r7 tag=1 base=11 len=5 addr=11 | w11-15 owner=5 state=LIVE \
                | free=2 live=12 largest=2 allocs=5
            alloc(7, 2) = 0 | r7 base=0 len=2 addr=0 | w0-1 owner=6 state=LIVE | free=0 live=14 largest=0 allocs=6
            """);
        String sentence = "If there is no fit in the quarantine-empty case, no sweep runs.";
        script.run(sentence, Busy.MACHINE + "sweep() = 4" + Busy.SWEPT + """
            alloc(0, 8) = NO_SPACE
            alloc(1, 16) = NO_SPACE
            stat(STAT_SWEEPS) = 2
            """);
        script.run(sentence, """
            new(8, 1)
            alloc(0, 8) = 0 | *
            alloc(1, 1) = NO_SPACE
            alloc(0, 8) = NO_SPACE
            stat(STAT_SWEEPS) = 0
            """);
    }

    private static void noSpace(Script script) {
        String sentence = "A sweep run during this call stays done (its cleared tags, freed words and the increased sweeps "
            + "count all remain); nothing else changes: allocs, register rd and all other state are as they were after that "
            + "sweep.";
        for (int rd = 0; rd < 8; rd++) {
            // Register rd is by turns revoked before, live, revoked by this sweep, never tagged, and new.
            script.run(sentence, Busy.MACHINE
                + "alloc(" + rd + ", 8) = NO_SPACE" + Busy.SWEPT
                + "alloc(" + rd + ", 8) = NO_SPACE\n"
                + "alloc(" + rd + ", 16) = NO_SPACE\n"
                + "loadedValue() = 41\n"
                + "stat(STAT_ALLOCS) = 4\n");
        }
        script.run("If there is still no fit, the answer is `NO_SPACE`.", """
            new(8, 64)
            alloc(0, 3) = 0 | *
            alloc(1, 2) = 3 | *
            alloc(2, 3) = 5 | *
            free(0) = OK | *
            free(2) = OK | *
            # six words are free after the sweep, but no four in a row
            alloc(3, 4) = NO_SPACE | r0 tag=0 | r2 tag=0 | w0-2 owner=0 state=FREE | w5-7 owner=0 state=FREE \
                | quar=0 free=6 largest=3 sweeps=1
            alloc(3, 3) = 0 | r3 tag=1 len=3 | w0-2 owner=4 state=LIVE | free=3 live=5 allocs=4
            """);
    }

    private static void smallestAndLargest(Script script) {
        script.run("Words a..a+n-1 become LIVE with owner s, tag false, cbase = clen = value = 0. "
            + "Register rd becomes tagged with base a, len n, addr a", """
            new(8, 64)
            alloc(0, 1) = 0 | r0 tag=1 len=1 | w0 owner=1 state=LIVE | free=7 live=1 largest=7 allocs=1
            alloc(7, 7) = 1 | r7 tag=1 base=1 len=7 addr=1 | w1-7 owner=2 state=LIVE | free=0 live=8 largest=0 allocs=2
            """);
        String answer = "The answer is a, which is in 0..H-n; note that an answer of 0 is the address 0.";
        script.run(answer, """
            new(16, 64)
            alloc(0, 16) = 0 | r0 tag=1 len=16 | w0-15 owner=1 state=LIVE | free=0 live=16 largest=0 allocs=1
            """);
        script.run(answer, """
            new(16, 64)
            alloc(0, 1) = 0 | r0 tag=1 len=1 | w0 owner=1 state=LIVE | free=15 live=1 largest=15 allocs=1
            alloc(1, 14) = 1 | r1 tag=1 base=1 len=14 addr=1 | w1-14 owner=2 state=LIVE \
                | free=1 live=15 largest=1 allocs=2
            alloc(2, 1) = 15 | r2 tag=1 base=15 len=1 addr=15 | w15 owner=3 state=LIVE \
                | free=0 live=16 largest=0 allocs=3
            """);
        script.run(answer, everyWordItsOwnBlock());
    }

    /** As many blocks as the widest heap can hold. */
    private static String everyWordItsOwnBlock() {
        StringBuilder text = new StringBuilder("new(64, 64)\n");
        for (int a = 0; a < 64; a++) {
            text.append("alloc(7, 1) = ").append(a).append(" | r7 tag=1 len=1 base=").append(a).append(" addr=").append(a)
                .append(" | w").append(a).append(" state=LIVE owner=").append(a + 1)
                .append(" | free=").append(63 - a).append(" largest=").append(63 - a)
                .append(" live=").append(a + 1).append(" allocs=").append(a + 1).append("\n");
        }
        return text.append("alloc(7, 1) = NO_SPACE\n").toString();
    }

    private static void whatIsOverwritten(Script script) {
        script.run("(its earlier contents are overwritten)", Busy.MACHINE + """
            # a live capability, a revoked one, one to the quarantine, and an address that was never tagged
            alloc(2, 1) = 0 | r2 base=0 len=1 addr=0 | w0 owner=5 state=LIVE | free=6 live=8 allocs=5
            alloc(0, 1) = 1 | r0 tag=1 base=1 len=1 addr=1 | w1 owner=6 state=LIVE | free=5 live=9 allocs=6
            alloc(3, 1) = 11 | r3 base=11 len=1 addr=11 | w11 owner=7 state=LIVE | free=4 live=10 largest=4 allocs=7
            alloc(6, 1) = 12 | r6 tag=1 base=12 len=1 addr=12 | w12 owner=8 state=LIVE \
                | free=3 live=11 largest=3 allocs=8
            """);
        script.run("No other register or word changes apart from a sweep run during the call.", Busy.MACHINE + """
            alloc(3, 7) = 9 | r3 addr=9 len=7 | r4 tag=0 | w6 tag=0 | w9 tag=0 base=0 len=0 | w9-10 value=0 \
                | w9-15 owner=5 state=LIVE | quar=0 free=2 live=14 largest=2 sweeps=2 allocs=5
            """);
    }
}
