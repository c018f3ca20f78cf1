import java.util.List;

/** The edges that the document's section 'State and shared terms' names. A run bears the sentence that it tests. */
public final class EdgesSharedTermsTest {
    private static final List<String> ACCESSES = List.of("storeData(0, 5)", "loadData(0)", "storeCap(0, 1)", "loadCap(7, 0)");

    public static void main(String[] args) {
        Script script = new Script();
        words(script);
        registers(script);
        counters(script);
        blocks(script);
        arithmetic(script);
        registersBeforeTheCheck(script);
        for (String access : ACCESSES) {
            dereferenceCheck(script, access);
        }
        sweepSteps(script);
        sweepOrder(script);
        firstFit(script);
        firstFitAmongOthers(script);
        refusedCalls(script);
        script.end();
    }

    private static void words(Script script) {
        script.run("Addresses are 0..H-1.", """
            new(9, 64)
            alloc(0, 9) = 0 | *
            mem(0, F_STATE) = LIVE
            mem(8, F_STATE) = LIVE
            mem(-1, F_STATE) = -1
            mem(9, F_STATE) = -1
            storeData(0, 5) = OK | w0 value=5
            addAddr(0, 8) = OK | r0 addr=8
            storeData(0, 6) = OK | w8 value=6
            addAddr(0, 1) = OK | r0 addr=9
            storeData(0, 7) = BOUNDS_FAULT
            addAddr(0, -10) = OK | r0 addr=-1
            storeData(0, 7) = BOUNDS_FAULT
            """);
        script.run("owner (int, 0 means none)", """
            new(8, 1)
            mem(0, F_OWNER) = 0
            alloc(0, 1) = 0 | r0 tag=1 len=1 | w0 owner=1 state=LIVE | free=7 live=1 largest=7 allocs=1
            mem(1, F_OWNER) = 0
            free(0) = OK_SWEPT | r0 tag=0 | w0 owner=0 state=FREE | free=8 live=0 largest=8 sweeps=1
            mem(0, F_OWNER) = 0
            """);
        script.run("A word holds a capability when its tag is true; cbase and clen are then its bounds "
            + "and value its address.", """
            new(16, 64)
            alloc(0, 1) = 0 | *
            alloc(1, 3) = 1 | *
            addAddr(1, -8) = OK | r1 addr=-7
            storeCap(0, 1) = OK | w0 tag=1 base=1 len=3 value=-7
            mem(0, F_TAG) = 1
            mem(0, F_BASE) = 1
            mem(0, F_LEN) = 3
            mem(0, F_ADDR) = -7
            """);
    }

    private static void registers(Script script) {
        String sentence = "Registers 0..7 each have: tag (boolean), base, len, addr (ints).";
        for (String outside : List.of("-1", "8", "9", "MIN", "MAX")) {
            script.run(sentence, (Busy.MACHINE + """
                alloc($r, 1) = BAD_REG
                free($r) = BAD_REG
                move($r, 1) = BAD_REG
                move(1, $r) = BAD_REG
                restrict($r, 1, 0, 1) = BAD_REG
                restrict(1, $r, 0, 1) = BAD_REG
                addAddr($r, 1) = BAD_REG
                storeData($r, 1) = BAD_REG
                loadData($r) = BAD_REG
                storeCap($r, 1) = BAD_REG
                storeCap(1, $r) = BAD_REG
                loadCap($r, 1) = BAD_REG
                loadCap(1, $r) = BAD_REG
                reg($r, F_TAG) = -1
                """).replace("$r", outside));
        }
        for (int r = 0; r < 8; r++) {
            script.run(sentence, """
                new(8, 64)
                alloc($r, 3) = 0 | r$r tag=1 len=3 | w0-2 owner=1 state=LIVE | free=5 live=3 largest=5 allocs=1
                addAddr($r, 2) = OK | r$r addr=2
                storeCap($r, $r) = OK | w2 tag=1 len=3 value=2
                loadData($r) = OK | loaded=2
                loadCap($r, $r) = OK
                storeData($r, 6) = OK | w2 tag=0 len=0 value=6
                move($r, $r) = OK
                reg($r, F_ADDR) = 2
                free($r) = OK | w0-2 state=QUAR | quar=3 live=0
                restrict($r, $r, 1, 2) = OK | r$r base=1 len=2 addr=1
                sweep() = 1 | r$r tag=0 | w2 value=0 | w0-2 owner=0 state=FREE | quar=0 free=8 largest=8 sweeps=1
                """.replace("$r", "" + r));
        }
    }

    private static void counters(Script script) {
        String sentence = "allocs (number of successful `alloc` calls), sweeps (number of sweeps run), "
            + "loaded (the last loaded value).";
        script.run(sentence, """
            new(8, 64)
            alloc(0, 0) = BAD_SIZE
            alloc(0, 9) = BAD_SIZE
            alloc(8, 1) = BAD_REG
            stat(STAT_ALLOCS) = 0
            alloc(0, 8) = 0 | r0 tag=1 len=8 | w0-7 owner=1 state=LIVE | free=0 live=8 largest=0 allocs=1
            alloc(1, 1) = NO_SPACE
            stat(STAT_ALLOCS) = 1
            """);
        script.run(sentence, """
            new(8, 2)
            sweep() = 0 | sweeps=1
            alloc(0, 2) = 0 | *
            free(0) = OK_SWEPT | r0 tag=0 | w0-1 owner=0 state=FREE | live=0 free=8 largest=8 sweeps=2
            alloc(0, 1) = 0 | *
            free(0) = OK | w0 state=QUAR | quar=1 live=0
            alloc(0, 8) = 0 | r0 tag=1 len=8 | w0-7 owner=3 state=LIVE \
                | quar=0 live=8 free=0 largest=0 sweeps=3 allocs=3
            alloc(1, 8) = NO_SPACE
            free(1) = TAG_FAULT
            stat(STAT_SWEEPS) = 3
            """);
        script.run(sentence, """
            new(8, 64)
            alloc(0, 1) = 0 | *
            storeData(0, 11) = OK | w0 value=11
            loadData(0) = OK | loaded=11
            storeData(0, 12) = OK | w0 value=12
            loadedValue() = 11
            loadData(0) = OK | loaded=12
            loadData(1) = TAG_FAULT
            loadedValue() = 12
            """);
    }

    private static void blocks(Script script) {
        script.run("A block is the set of words having one owner s other than 0. Its words are always consecutive; "
            + "its start is its lowest address. s is the serial of the `alloc` call that made it.", """
            new(8, 2)
            alloc(0, 1) = 0 | r0 tag=1 len=1 | w0 owner=1 state=LIVE | free=7 live=1 largest=7 allocs=1
            alloc(1, 2) = 1 | r1 tag=1 base=1 len=2 addr=1 | w1-2 owner=2 state=LIVE | free=5 live=3 largest=5 allocs=2
            alloc(2, 1) = 3 | r2 tag=1 base=3 len=1 addr=3 | w3 owner=3 state=LIVE | free=4 live=4 largest=4 allocs=3
            free(1) = OK_SWEPT | r1 tag=0 | w1-2 owner=0 state=FREE | live=2 free=6 sweeps=1
            # no block is laid around another one, and a serial is not used again
            alloc(3, 5) = NO_SPACE
            alloc(3, 4) = 4 | r3 tag=1 base=4 len=4 addr=4 | w4-7 owner=4 state=LIVE | free=2 live=6 largest=2 allocs=4
            alloc(4, 2) = 1 | r4 tag=1 base=1 len=2 addr=1 | w1-2 owner=5 state=LIVE | free=0 live=8 largest=0 allocs=5
            """);
    }

    private static void arithmetic(Script script) {
        script.run("All comparisons in this document are on mathematical integers, with no overflow (for example "
            + "`off + len` and `base + len` are compared as exact values even when they exceed the int range).", """
            new(16, 64)
            alloc(0, 4) = 0 | *
            alloc(1, 6) = 4 | *
            restrict(2, 1, MAX, 1) = BAD_BOUNDS
            restrict(2, 1, MAX, 2) = BAD_BOUNDS
            restrict(2, 1, 1, MAX) = BAD_BOUNDS
            restrict(2, 1, MAX, MAX) = BAD_BOUNDS
            restrict(2, 1, 1073741824, 1073741824) = BAD_BOUNDS
            restrict(2, 1, 0, MAX) = BAD_BOUNDS
            # the exact distance from base to address is beyond the int range here
            addAddr(1, 2147483643) = OK | r1 addr=MAX
            loadData(1) = BOUNDS_FAULT
            addAddr(1, 1) = OK | r1 addr=MIN
            loadData(1) = BOUNDS_FAULT
            alloc(3, MIN) = BAD_SIZE
            alloc(3, MAX) = BAD_SIZE
            """);
        script.run("The single exception is `addAddr`, whose addition wraps around as Java int arithmetic does.", """
            new(16, 64)
            alloc(0, 4) = 0 | *
            alloc(1, 6) = 4 | *
            addAddr(1, MAX) = OK | r1 addr=-2147483645
            # all the way around, and the word can be reached again
            addAddr(1, MAX) = OK | r1 addr=2
            addAddr(1, 2) = OK | r1 addr=4
            storeData(1, 9) = OK | w4 value=9
            """);
    }

    private static void registersBeforeTheCheck(Script script) {
        script.run("made after the register-index tests of the call", Busy.MACHINE + """
            storeData(8, 1) = BAD_REG
            loadData(-1) = BAD_REG
            # register 0 has no tag, and register 5 is out of its bounds
            storeCap(0, 8) = BAD_REG
            loadCap(8, 0) = BAD_REG
            addAddr(5, 2) = OK | r5 addr=5
            storeCap(5, -1) = BAD_REG
            loadCap(-1, 5) = BAD_REG
            """);
    }

    private static void dereferenceCheck(Script script, String access) {
        script.run("if r is untagged the answer is `TAG_FAULT`", """
            new(16, 4)
            $access = TAG_FAULT
            addAddr(0, -1) = OK | r0 addr=-1
            $access = TAG_FAULT
            addAddr(0, 17) = OK | r0 addr=16
            $access = TAG_FAULT
            # revoked, with its address in bounds and then out of them
            alloc(1, 4) = 0 | *
            alloc(0, 4) = 4 | *
            free(0) = OK_SWEPT | *
            $access = TAG_FAULT
            addAddr(0, 4) = OK | r0 addr=8
            $access = TAG_FAULT
            """.replace("$access", access));
        String bounds = "unless both base <= addr < base + len and 0 <= addr < H hold, the answer is `BOUNDS_FAULT`";
        script.run(bounds, """
            new(16, 64)
            alloc(1, 4) = 0 | *
            alloc(0, 5) = 4 | *
            $access = OK | *
            addAddr(0, -1) = OK | r0 addr=3
            $access = BOUNDS_FAULT
            addAddr(0, 5) = OK | r0 addr=8
            $access = OK | *
            addAddr(0, 1) = OK | r0 addr=9
            $access = BOUNDS_FAULT
            addAddr(0, -9) = OK | r0 addr=0
            $access = BOUNDS_FAULT
            addAddr(0, 15) = OK | r0 addr=15
            $access = BOUNDS_FAULT
            """.replace("$access", access));
        script.run(bounds, """
            new(16, 64)
            alloc(0, 16) = 0 | *
            addAddr(0, -1) = OK | r0 addr=-1
            $access = BOUNDS_FAULT
            addAddr(0, 16) = OK | r0 addr=15
            $access = OK | *
            addAddr(0, 1) = OK | r0 addr=16
            $access = BOUNDS_FAULT
            addAddr(0, 47) = OK | r0 addr=63
            $access = BOUNDS_FAULT
            addAddr(0, 1) = OK | r0 addr=64
            $access = BOUNDS_FAULT
            addAddr(0, 2147483583) = OK | r0 addr=MAX
            $access = BOUNDS_FAULT
            addAddr(0, 1) = OK | r0 addr=MIN
            $access = BOUNDS_FAULT
            """.replace("$access", access));
        script.run("otherwise the target word is w = addr of r", """
            new(8, 64)
            alloc(0, 2) = 0 | *
            alloc(0, 1) = 2 | *
            # the one word of a block of one, and nothing beside it
            $access = OK | *
            addAddr(0, 1) = OK | r0 addr=3
            $access = BOUNDS_FAULT
            addAddr(0, -2) = OK | r0 addr=1
            $access = BOUNDS_FAULT
            """.replace("$access", access));
    }

    private static void sweepSteps(Script script) {
        script.run("For r = 0..7: if r is tagged, 0 <= base < H, and word base is QUAR, clear the tag of r "
            + "(other fields kept) and add 1 to c.", """
            new(16, 64)
            alloc(1, 2) = 0 | *
            alloc(2, 2) = 2 | *
            alloc(3, 2) = 4 | *
            addAddr(2, 9) = OK | r2 addr=11
            move(0, 2) = OK | r0 tag=1 base=2 len=2 addr=11
            restrict(7, 2, 1, 1) = OK | r7 tag=1 base=3 len=1 addr=3
            free(2) = OK | w2-3 state=QUAR | quar=2 live=4
            # registers 1 and 3 lie just below and just above the quarantine; the untagged 4 to 6 have base 0
            sweep() = 3 | r0 tag=0 | r2 tag=0 | r7 tag=0 | w2-3 owner=0 state=FREE | quar=0 free=12 largest=10 sweeps=1
            """);
        script.run("For r = 0..7: if r is tagged", """
            new(16, 64)
            alloc(0, 2) = 0 | *
            free(0) = OK | w0-1 state=QUAR | quar=2 live=0
            # registers 1 to 7 have base 0 as well, which is QUAR, but no tag
            sweep() = 1 | r0 tag=0 | w0-1 owner=0 state=FREE | quar=0 free=16 largest=16 sweeps=1
            """);
        script.run("For w = 0..H-1: if word w is tagged, 0 <= cbase < H, and word cbase is QUAR, clear the tag of w "
            + "(other fields kept) and add 1 to c.", """
            new(8, 64)
            alloc(0, 1) = 0 | *
            alloc(1, 5) = 1 | *
            alloc(2, 2) = 6 | *
            addAddr(1, 9) = OK | r1 addr=10
            storeCap(0, 1) = OK | w0 tag=1 base=1 len=5 value=10
            storeCap(2, 0) = OK | w6 tag=1 len=1
            addAddr(2, 1) = OK | r2 addr=7
            restrict(3, 1, 4, 1) = OK | r3 tag=1 base=5 len=1 addr=5
            storeCap(2, 3) = OK | w7 tag=1 base=5 len=1 value=5
            free(1) = OK | w1-5 state=QUAR | quar=5 live=3
            # the first word and the last one; word 6 holds the block just below the quarantine
            sweep() = 4 | r1 tag=0 | r3 tag=0 | w0 tag=0 | w7 tag=0 | w1-5 owner=0 state=FREE \
                | quar=0 free=5 largest=5 sweeps=1
            """);
        script.run("For w = 0..H-1: if word w is tagged", """
            new(8, 64)
            alloc(0, 2) = 0 | *
            alloc(1, 2) = 2 | *
            storeData(1, 1) = OK | w2 value=1
            free(0) = OK | w0-1 state=QUAR | quar=2 live=2
            # words 2 to 7 have cbase 0, which is QUAR, but no tag
            sweep() = 1 | r0 tag=0 | w0-1 owner=0 state=FREE | quar=0 free=6 sweeps=1
            """);
        script.run("Every QUAR word becomes FREE with owner 0, tag false, cbase = clen = value = 0.", """
            new(64, 64)
            alloc(0, 63) = 0 | *
            storeData(0, MIN) = OK | w0 value=MIN
            addAddr(0, 62) = OK | r0 addr=62
            storeCap(0, 0) = OK | w62 tag=1 len=63 value=62
            free(0) = OK | w0-62 state=QUAR | quar=63 live=0
            sweep() = 2 | r0 tag=0 | w62 tag=0 len=0 | w0-62 value=0 owner=0 state=FREE \
                | quar=0 free=64 largest=64 sweeps=1
            """);
        script.run("sweeps = sweeps + 1. The sweep's count is c.", Busy.MACHINE
            + "sweep() = 4" + Busy.SWEPT + "sweep() = 0 | sweeps=3\n");
    }

    private static void sweepOrder(Script script) {
        script.run("Steps 1 and 2 look at the states as they are before step 3", """
            new(8, 64)
            alloc(0, 1) = 0 | *
            alloc(1, 1) = 1 | *
            alloc(2, 1) = 2 | *
            alloc(3, 5) = 3 | *
            # word 3 holds the first quarantined word, word 0 the last: one is looked at before its base, one after it
            storeCap(3, 0) = OK | w3 tag=1 len=1
            storeCap(0, 2) = OK | w0 tag=1 base=2 len=1 value=2
            free(0) = OK | w0 state=QUAR | quar=1 live=7
            free(2) = OK | w2 state=QUAR | quar=2 live=6
            sweep() = 4 | r0 tag=0 | r2 tag=0 | w0 tag=0 base=0 len=0 value=0 | w0 owner=0 state=FREE \
                | w2 owner=0 state=FREE | w3 tag=0 | quar=0 free=2 largest=1 sweeps=1
            """);
        script.run("a tagged word that is itself QUAR and whose cbase is QUAR is counted in step 2 "
            + "and then zeroed in step 3", """
            new(8, 64)
            alloc(0, 1) = 0 | *
            alloc(1, 1) = 1 | *
            storeCap(1, 1) = OK | w1 tag=1 base=1 len=1 value=1
            free(1) = OK | w1 state=QUAR | quar=1 live=1
            sweep() = 2 | r1 tag=0 | w1 tag=0 base=0 len=0 value=0 owner=0 state=FREE | quar=0 free=7 largest=7 sweeps=1
            """);
        script.run("step 3 still zeroes every QUAR word whatever it holds", """
            new(16, 64)
            alloc(0, 4) = 0 | *
            alloc(1, 2) = 4 | *
            alloc(2, 2) = 6 | *
            free(2) = OK | *
            sweep() = 1 | *
            # a capability to live memory, a revoked one, a number, and one to the block itself
            storeCap(0, 1) = OK | w0 tag=1 base=4 len=2 value=4
            addAddr(0, 1) = OK | r0 addr=1
            storeCap(0, 2) = OK | w1 base=6 len=2 value=6
            addAddr(0, 1) = OK | r0 addr=2
            storeData(0, MIN) = OK | w2 value=MIN
            addAddr(0, 1) = OK | r0 addr=3
            storeCap(0, 0) = OK | w3 tag=1 len=4 value=3
            free(0) = OK | w0-3 state=QUAR | quar=4 live=2
            sweep() = 2 | r0 tag=0 | w0-3 tag=0 base=0 len=0 value=0 owner=0 state=FREE | quar=0 free=14 sweeps=2
            """);
    }

    private static void firstFit(Script script) {
        String lowest = "the lowest a with 0 <= a <= H - n such that words a..a+n-1 are all FREE";
        script.run(lowest, """
            new(8, 64)
            alloc(0, 8) = 0 | r0 tag=1 len=8 | w0-7 owner=1 state=LIVE | free=0 live=8 largest=0 allocs=1
            """);
        script.run(lowest, """
            new(8, 64)
            alloc(0, 5) = 0 | *
            # the last place that there is: a = H - n
            alloc(1, 3) = 5 | r1 tag=1 base=5 len=3 addr=5 | w5-7 owner=2 state=LIVE | free=0 live=8 largest=0 allocs=2
            """);
        script.run(lowest, """
            new(8, 64)
            alloc(0, 7) = 0 | *
            alloc(1, 1) = 7 | r1 tag=1 base=7 len=1 addr=7 | w7 owner=2 state=LIVE | free=0 live=8 largest=0 allocs=2
            """);
        String none = "there is none if no such a exists";
        script.run(none, """
            new(8, 64)
            alloc(0, 5) = 0 | *
            alloc(1, 4) = NO_SPACE
            """);
        script.run(none, """
            new(8, 64)
            alloc(0, 2) = 0 | *
            alloc(1, 4) = 2 | *
            free(0) = OK | *
            sweep() = 1 | *
            # two words free at each end: the heap is no ring
            alloc(2, 3) = NO_SPACE
            alloc(2, 4) = NO_SPACE
            alloc(2, 2) = 0 | r2 tag=1 len=2 | w0-1 owner=3 state=LIVE | free=2 live=6 allocs=3
            """);
        script.run(none, """
            new(8, 64)
            alloc(0, 8) = 0 | *
            # not one word is free
            alloc(1, 1) = NO_SPACE
            """);
    }

    private static void firstFitAmongOthers(Script script) {
        script.run("the lowest a", """
            new(16, 64)
            alloc(0, 1) = 0 | *
            alloc(1, 1) = 1 | *
            alloc(2, 4) = 2 | *
            alloc(3, 1) = 6 | *
            alloc(4, 2) = 7 | *
            alloc(5, 1) = 9 | *
            free(0) = OK | *
            free(2) = OK | *
            free(4) = OK | *
            sweep() = 3 | *
            # free are 0, 2-5, 7-8 and 10-15: one word too narrow, then wide enough, then just right, then the widest
            alloc(6, 2) = 2 | r6 tag=1 base=2 len=2 addr=2 | w2-3 owner=7 state=LIVE | free=11 live=5 allocs=7
            alloc(6, 2) = 4 | r6 base=4 addr=4 | w4-5 owner=8 state=LIVE | free=9 live=7 allocs=8
            alloc(6, 2) = 7 | r6 base=7 addr=7 | w7-8 owner=9 state=LIVE | free=7 live=9 allocs=9
            alloc(6, 1) = 0 | r6 base=0 len=1 addr=0 | w0 owner=10 state=LIVE | free=6 live=10 allocs=10
            alloc(6, 6) = 10 | r6 base=10 len=6 addr=10 | w10-15 owner=11 state=LIVE \
                | free=0 live=16 largest=0 allocs=11
            """);
        script.run("such that words a..a+n-1 are all FREE", """
            new(16, 64)
            alloc(0, 2) = 0 | *
            alloc(1, 1) = 2 | *
            alloc(2, 2) = 3 | *
            free(0) = OK | *
            sweep() = 1 | *
            free(1) = OK | *
            # 0-1 are free and 2 is in quarantine, which is not free
            alloc(3, 3) = 5 | r3 tag=1 base=5 len=3 addr=5 | w5-7 owner=4 state=LIVE | free=10 live=5 largest=8 allocs=4
            alloc(4, 2) = 0 | r4 tag=1 len=2 | w0-1 owner=5 state=LIVE | free=8 live=7 allocs=5
            """);
    }

    private static void refusedCalls(Script script) {
        script.run("A refused call (any negative answer) changes nothing", Busy.MACHINE + """
            alloc(8, 6) = BAD_REG
            alloc(1, 0) = BAD_SIZE
            alloc(1, 17) = BAD_SIZE
            free(8) = BAD_REG
            free(0) = TAG_FAULT
            free(3) = NOT_BLOCK
            free(5) = NOT_BLOCK
            move(8, 1) = BAD_REG
            move(1, 8) = BAD_REG
            restrict(1, 8, 0, 1) = BAD_REG
            restrict(1, 0, 0, 1) = TAG_FAULT
            restrict(1, 2, 4, 1) = BAD_BOUNDS
            addAddr(8, 1) = BAD_REG
            storeData(8, 1) = BAD_REG
            storeData(0, 1) = TAG_FAULT
            loadData(8) = BAD_REG
            loadData(6) = TAG_FAULT
            storeCap(1, 8) = BAD_REG
            storeCap(7, 1) = TAG_FAULT
            loadCap(1, 8) = BAD_REG
            loadCap(1, 0) = TAG_FAULT
            addAddr(2, 3) = OK | r2 addr=9
            storeData(2, 1) = BOUNDS_FAULT
            loadData(2) = BOUNDS_FAULT
            storeCap(2, 1) = BOUNDS_FAULT
            loadCap(1, 2) = BOUNDS_FAULT
            reg(8, F_TAG) = -1
            mem(16, F_TAG) = -1
            stat(8) = -1
            """);
        script.run("except where stated for `alloc`", Busy.MACHINE + "alloc(1, 8) = NO_SPACE" + Busy.SWEPT);
    }
}
