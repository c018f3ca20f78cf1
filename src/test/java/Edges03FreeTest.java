/** The edges that promise 3 names. A run bears the sentence that it tests. */
public final class Edges03FreeTest {
    public static void main(String[] args) {
        Script script = new Script();
        refused(script);
        notABlock(script);
        quarantined(script);
        thresholds(script);
        sweptRegister(script);
        addressAndSerial(script);
        script.end();
    }

    private static void refused(Script script) {
        script.run("r not in 0..7: `BAD_REG`.", Busy.MACHINE + """
            free(-1) = BAD_REG
            free(8) = BAD_REG
            free(MIN) = BAD_REG
            free(MAX) = BAD_REG
            """);
        script.run("register r untagged: `TAG_FAULT`.", Busy.MACHINE + """
            # revoked, never tagged, new
            free(0) = TAG_FAULT
            free(6) = TAG_FAULT
            free(7) = TAG_FAULT
            """);
        script.run("register r untagged: `TAG_FAULT`.", """
            new(8, 1)
            alloc(0, 3) = 0 | *
            free(0) = OK_SWEPT | *
            alloc(1, 3) = 0 | *
            # the bounds of a live block without the tag
            free(0) = TAG_FAULT
            """);
    }

    private static void notABlock(Script script) {
        script.run("word base is LIVE", Busy.MACHINE + """
            free(3) = NOT_BLOCK
            free(4) = NOT_BLOCK
            loadCap(7, 2) = OK | r7 tag=1 base=9 len=2 addr=10
            free(7) = NOT_BLOCK
            """);
        script.run("base is the start of its block", Busy.MACHINE + """
            free(5) = NOT_BLOCK
            restrict(7, 2, 3, 1) = OK | r7 tag=1 base=8 len=1 addr=8
            free(7) = NOT_BLOCK
            """);
        script.run("len of r equals the number of words of that block", Busy.MACHINE + """
            # one word short, and one word alone
            restrict(7, 2, 0, 3) = OK | r7 tag=1 base=5 len=3 addr=5
            free(7) = NOT_BLOCK
            restrict(7, 2, 0, 1) = OK | r7 len=1
            free(7) = NOT_BLOCK
            # narrowed by nothing
            restrict(7, 2, 0, 4) = OK | r7 len=4
            free(7) = OK | w5-8 state=QUAR | quar=6 live=3
            """);
        script.run("On any of these nothing changes.", """
            new(8, 1)
            alloc(0, 4) = 0 | *
            storeData(0, 3) = OK | *
            loadData(0) = OK | *
            restrict(1, 0, 0, 3) = OK | *
            restrict(2, 0, 1, 3) = OK | *
            # the threshold is 1: a word put in quarantine would be swept at once
            free(1) = NOT_BLOCK
            free(2) = NOT_BLOCK
            free(3) = TAG_FAULT
            free(8) = BAD_REG
            """);
    }

    private static void quarantined(Script script) {
        script.run("every word of that block becomes QUAR, keeping its owner, tag, cbase, clen and value. "
            + "Register r is not changed by this step.", Busy.MACHINE + """
            # capabilities to live and to quarantined memory, a revoked one, and an empty word
            free(2) = OK | w5-8 state=QUAR | quar=6 live=3
            mem(5, F_OWNER) = 3
            mem(5, F_TAG) = 1
            mem(6, F_TAG) = 1
            mem(8, F_LEN) = 2
            reg(2, F_TAG) = 1
            """);
        script.run("every word of that block becomes QUAR", """
            new(8, 64)
            alloc(0, 1) = 0 | *
            alloc(1, 6) = 1 | *
            alloc(2, 1) = 7 | *
            # a block of one word at either end, and the words beside it stay
            free(0) = OK | w0 state=QUAR | quar=1 live=7
            free(2) = OK | w7 state=QUAR | quar=2 live=6
            free(1) = OK | w1-6 state=QUAR | quar=8 live=0
            """);
        script.run("every word of that block becomes QUAR", """
            new(64, 64)
            alloc(0, 63) = 0 | *
            free(0) = OK | w0-62 state=QUAR | quar=63 live=0
            """);
    }

    private static void thresholds(Script script) {
        String sentence = "if the number of QUAR words is now at least T, a sweep runs and the answer is `OK_SWEPT`; "
            + "otherwise the answer is `OK` and nothing else changes";
        script.run(sentence, """
            new(16, 5)
            alloc(0, 4) = 0 | *
            # one below T
            free(0) = OK | w0-3 state=QUAR | quar=4 live=0
            """);
        script.run(sentence, """
            new(16, 4)
            alloc(0, 4) = 0 | *
            # just T
            free(0) = OK_SWEPT | r0 tag=0 | w0-3 owner=0 state=FREE | live=0 free=16 largest=16 sweeps=1
            """);
        script.run(sentence, """
            new(16, 3)
            alloc(0, 4) = 0 | *
            # one above T
            free(0) = OK_SWEPT | r0 tag=0 | w0-3 owner=0 state=FREE | live=0 free=16 largest=16 sweeps=1
            """);
        script.run(sentence, Busy.MACHINE + """
            alloc(7, 1) = 0 | *
            alloc(0, 2) = 11 | *
            # words are counted, not blocks, and those of earlier calls too: 2 + 4 + 1, then 2 more
            free(2) = OK | w5-8 state=QUAR | quar=6 live=6
            free(7) = OK | w0 state=QUAR | quar=7 live=5
            free(0) = OK_SWEPT | r0 tag=0 | r2-4 tag=0 | r7 tag=0 | w5-6 tag=0 | w9 tag=0 \
                | w5-10 base=0 len=0 value=0 owner=0 state=FREE | w0 owner=0 state=FREE \
                | w11-12 owner=0 state=FREE | quar=0 live=3 free=13 largest=11 sweeps=2
            # and the count begins anew
            free(1) = OK | w2-4 state=QUAR | quar=3 live=0
            """);
        script.run(sentence, """
            new(8, 1)
            alloc(0, 1) = 0 | *
            # the least T and the least block
            free(0) = OK_SWEPT | r0 tag=0 | w0 owner=0 state=FREE | live=0 free=8 largest=8 sweeps=1
            """);
        script.run(sentence, """
            new(64, 64)
            alloc(0, 64) = 0 | *
            # the greatest T and the greatest block
            free(0) = OK_SWEPT | r0 tag=0 | w0-63 owner=0 state=FREE | live=0 free=64 largest=64 sweeps=1
            """);
        script.run(sentence, """
            new(8, 9)
            alloc(0, 8) = 0 | *
            # T is more than the heap has
            free(0) = OK | w0-7 state=QUAR | quar=8 live=0
            """);
    }

    private static void sweptRegister(Script script) {
        script.run("When the sweep runs, it clears the tag of r like any other capability whose base is QUAR.", """
            new(8, 2)
            alloc(0, 2) = 0 | *
            alloc(1, 2) = 2 | *
            move(7, 1) = OK | *
            storeCap(0, 1) = OK | *
            addAddr(1, 4) = OK | *
            free(1) = OK_SWEPT | r1 tag=0 | r7 tag=0 | w0 tag=0 | w2-3 owner=0 state=FREE \
                | live=2 free=6 largest=6 sweeps=1
            free(1) = TAG_FAULT
            free(7) = TAG_FAULT
            """);
    }

    private static void addressAndSerial(Script script) {
        String address = "The addr of r plays no part in `free`.";
        for (String delta : new String[] {"1", "3", "4", "-1", "-5", "60", "MAX", "MIN"}) {
            script.run(address, """
                new(16, 64)
                alloc(0, 4) = 0 | *
                alloc(1, 4) = 4 | *
                addAddr(1, $d) = OK | *
                free(1) = OK | w4-7 state=QUAR | quar=4 live=4
                """.replace("$d", delta));
        }
        script.run("allocs is never changed by `free`.", """
            new(8, 2)
            alloc(0, 1) = 0 | *
            alloc(1, 1) = 1 | *
            free(1) = OK | w1 state=QUAR | quar=1 live=1
            stat(STAT_ALLOCS) = 2
            free(0) = OK_SWEPT | r0-1 tag=0 | w0-1 owner=0 state=FREE | quar=0 live=0 free=8 largest=8 sweeps=1
            stat(STAT_ALLOCS) = 2
            # the next block takes the next serial
            alloc(2, 1) = 0 | r2 tag=1 len=1 | w0 owner=3 state=LIVE | free=7 live=1 largest=7 allocs=3
            """);
    }
}
