/** The edges that the document's section 'What it is' names. A run bears the sentence that it tests. */
public final class EdgesWhatItIsTest {
    public static void main(String[] args) {
        Script script = new Script();
        sizes(script);
        capabilities(script);
        quarantine(script);
        sweeps(script);
        script.end();
    }

    private static void sizes(Script script) {
        String sentence = "It has a heap of H tagged words (H between 8 and 64) and eight capability registers.";
        script.run(sentence, """
            new(8, 64)
            alloc(7, 8) = 0 | r7 tag=1 len=8 | w0-7 owner=1 state=LIVE | free=0 live=8 largest=0 allocs=1
            alloc(8, 1) = BAD_REG
            mem(7, F_STATE) = LIVE
            mem(8, F_STATE) = -1
            reg(7, F_LEN) = 8
            reg(8, F_LEN) = -1
            """);
        script.run(sentence, """
            new(64, 64)
            alloc(7, 64) = 0 | r7 tag=1 len=64 | w0-63 owner=1 state=LIVE | free=0 live=64 largest=0 allocs=1
            mem(63, F_STATE) = LIVE
            mem(64, F_STATE) = -1
            """);
    }

    private static void capabilities(Script script) {
        String sentence = "Only `alloc` and `restrict` can create a tagged capability; "
            + "`move`, `loadCap` and `storeCap` only copy one.";
        script.run(sentence, """
            new(16, 1)
            alloc(0, 4) = 0 | *
            alloc(1, 4) = 4 | *
            free(1) = OK_SWEPT | *
            alloc(2, 4) = 4 | *
            # register 1 has the bounds of block 3 now, but no tag, and nothing gives it one
            addAddr(1, 0) = OK
            move(3, 1) = OK | r3 base=4 len=4 addr=4
            storeCap(0, 1) = OK | w0 base=4 len=4 value=4
            loadCap(5, 0) = OK | r5 base=4 len=4 addr=4
            restrict(6, 1, 0, 4) = TAG_FAULT
            # a number that is a good address makes no capability either
            storeData(0, 4) = OK | w0 base=0 len=0
            loadCap(5, 0) = OK | r5 base=0 len=0
            loadData(5) = TAG_FAULT
            """);
        script.run(sentence, """
            new(16, 1)
            alloc(0, 4) = 0 | *
            alloc(1, 4) = 4 | r1 tag=1 base=4 len=4 addr=4 | w4-7 owner=2 state=LIVE | free=8 live=8 largest=8 allocs=2
            restrict(2, 1, 1, 2) = OK | r2 tag=1 base=5 len=2 addr=5
            move(3, 2) = OK | r3 tag=1 base=5 len=2 addr=5
            storeCap(0, 3) = OK | w0 tag=1 base=5 len=2 value=5
            loadCap(5, 0) = OK | r5 tag=1 base=5 len=2 addr=5
            """);
        script.run("Programs allocate blocks with a first-fit allocator over free words, "
            + "so freed neighbours join into larger runs.", """
            new(8, 64)
            alloc(0, 3) = 0 | *
            alloc(1, 2) = 3 | *
            alloc(2, 3) = 5 | *
            free(0) = OK | *
            free(2) = OK | *
            sweep() = 2 | r0 tag=0 | r2 tag=0 | w0-2 owner=0 state=FREE | w5-7 owner=0 state=FREE \
                | quar=0 free=6 largest=3 sweeps=1
            alloc(3, 4) = NO_SPACE
            free(1) = OK | *
            sweep() = 1 | r1 tag=0 | w3-4 owner=0 state=FREE | quar=0 free=8 largest=8 sweeps=2
            alloc(3, 8) = 0 | r3 tag=1 len=8 | w0-7 owner=4 state=LIVE | free=0 live=8 largest=0 allocs=4
            """);
        script.run("Every access checks the tag and the bounds.", Busy.MACHINE + """
            storeData(0, 1) = TAG_FAULT
            loadData(0) = TAG_FAULT
            storeCap(0, 1) = TAG_FAULT
            loadCap(7, 0) = TAG_FAULT
            addAddr(5, 2) = OK | r5 addr=5
            storeData(5, 1) = BOUNDS_FAULT
            loadData(5) = BOUNDS_FAULT
            storeCap(5, 1) = BOUNDS_FAULT
            loadCap(7, 5) = BOUNDS_FAULT
            """);
    }

    private static void quarantine(Script script) {
        script.run("A freed block does not become reusable at once: its words go into quarantine (state QUAR).", """
            new(8, 64)
            alloc(0, 3) = 0 | *
            alloc(1, 1) = 3 | *
            free(0) = OK | w0-2 state=QUAR | quar=3 live=1
            alloc(2, 3) = 4 | r2 tag=1 base=4 len=3 addr=4 | w4-6 owner=3 state=LIVE | free=1 live=4 largest=1 allocs=3
            alloc(3, 1) = 7 | r3 tag=1 base=7 len=1 addr=7 | w7 owner=4 state=LIVE | free=0 live=5 largest=0 allocs=4
            """);
        script.run("A revocation sweep clears the tag of every capability, in a register or in any heap word, "
            + "whose base lies in quarantined memory. Only then are the quarantined words zeroed and returned to the free "
            + "pool.", everyPlaceHolds("sweep() = 16 | r0-7 tag=0 | w0-1 tag=0 base=0 len=0 value=0 owner=0 state=FREE"
                + " | w2-7 tag=0 | quar=0 free=2 largest=2 sweeps=1"));
    }

    /** All eight registers and all eight words hold the block at 0-1, which is in quarantine, when the last line comes. */
    private static String everyPlaceHolds(String lastLine) {
        StringBuilder text = new StringBuilder("new(8, 64)\nalloc(0, 2) = 0 | *\nalloc(7, 6) = 2 | *\nmove(6, 0) = OK | *\n");
        for (int w = 2; w < 8; w++) {
            text.append("storeCap(7, 0) = OK | *\naddAddr(7, 1) = OK | *\n");
        }
        text.append("storeCap(6, 0) = OK | *\naddAddr(6, 1) = OK | *\nstoreCap(6, 0) = OK | *\n");
        for (int r = 1; r < 8; r++) {
            text.append("move(").append(r).append(", 0) = OK | *\n");
        }
        return text.append("free(0) = OK | w0-1 state=QUAR | quar=2 live=6\n").append(lastLine).toString();
    }

    private static void sweeps(Script script) {
        String sentence = "A sweep runs on request, automatically when the quarantine reaches a threshold T, "
            + "and once when an allocation finds no room while quarantine is non-empty.";
        script.run(sentence, Busy.MACHINE + "sweep() = 4" + Busy.SWEPT);
        script.run(sentence, """
            new(8, 3)
            alloc(0, 2) = 0 | *
            alloc(1, 1) = 2 | *
            free(0) = OK | w0-1 state=QUAR | quar=2 live=1
            free(1) = OK_SWEPT | r0 tag=0 | r1 tag=0 | w0-2 owner=0 state=FREE | quar=0 live=0 free=8 largest=8 sweeps=1
            """);
        script.run(sentence, Busy.MACHINE
            + "alloc(7, 16) = NO_SPACE" + Busy.SWEPT
            + "alloc(7, 16) = NO_SPACE\n");
    }
}
