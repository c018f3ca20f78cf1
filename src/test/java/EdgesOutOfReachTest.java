/**
 * Edges that the document names but no run of calls reaches, because every tagged capability lies within one block (that
 * it does is looked at in LongRunsTest). They are planted by force. A run bears the sentence that it tests.
 */
public final class EdgesOutOfReachTest {
    private static final String[] OUTSIDE = {"-1", "8", "9", "63", "64", "65", "MIN", "MAX"};

    public static void main(String[] args) {
        if (!Planted.possible()) {
            System.out.println("nothing planted: the class keeps its state in other fields than those known here");
            return;
        }
        Script script = new Script();
        for (String outside : OUTSIDE) {
            sweep(script, outside);
            freeOutside(script, outside);
        }
        sweepFreeBase(script);
        freeNotABlock(script);
        heapEnds(script);
        exactSums(script);
        freeWords(script);
        script.end();
    }

    private static void sweep(Script script, String outside) {
        script.run("A capability whose base lies outside 0..H-1 is never cleared or counted by steps 1 and 2; "
            + "step 3 still zeroes every QUAR word whatever it holds.", """
            new(8, 64)
            alloc(0, 2) = 0 | *
            alloc(1, 2) = 2 | *
            free(0) = OK | *
            # in a register, in a live word, and in a word that is QUAR
            plant() | r2 tag=1 base=$b len=3 addr=1 | w2 tag=1 base=$b len=3 value=1 | w1 tag=1 base=$b len=3 value=1
            sweep() = 1 | r0 tag=0 | w1 tag=0 base=0 len=0 value=0 | w0-1 owner=0 state=FREE | quar=0 free=6 sweeps=1
            sweep() = 0 | sweeps=2
            """.replace("$b", outside));
    }

    private static void freeOutside(Script script, String outside) {
        script.run("unless 0 <= base < H", """
            new(8, 1)
            alloc(0, 3) = 0 | *
            plant() | r1 tag=1 base=$b len=3 addr=0 | r2 tag=1 base=$b len=1 addr=0 | r3 tag=1 base=$b
            free(1) = NOT_BLOCK
            free(2) = NOT_BLOCK
            free(3) = NOT_BLOCK
            """.replace("$b", outside));
    }

    private static void sweepFreeBase(Script script) {
        script.run("and word base is QUAR, clear the tag of r", """
            new(8, 64)
            alloc(0, 2) = 0 | *
            plant() | r1 tag=1 base=2 len=2 addr=2 | w1 tag=1 base=2 len=2 value=2
            # the base is a free word, beside a live one and then beside one in quarantine
            sweep() = 0 | sweeps=1
            free(0) = OK | *
            sweep() = 1 | r0 tag=0 | w1 tag=0 base=0 len=0 value=0 | w0-1 owner=0 state=FREE \
                | quar=0 free=8 largest=8 sweeps=2
            """);
    }

    private static void freeNotABlock(Script script) {
        script.run("word base is LIVE", """
            new(8, 1)
            alloc(0, 3) = 0 | *
            # free words, as many as there are
            plant() | r1 tag=1 base=3 len=5 addr=3 | r2 tag=1 base=7 len=1 addr=7
            free(1) = NOT_BLOCK
            free(2) = NOT_BLOCK
            """);
        script.run("base is the start of its block", """
            new(16, 1)
            alloc(0, 2) = 0 | *
            alloc(1, 4) = 2 | *
            # the block's size, from its second word and from its last one
            plant() | r2 tag=1 base=3 len=4 addr=3 | r3 tag=1 base=5 len=4 addr=5 | r4 tag=1 base=1 len=2 addr=1
            free(2) = NOT_BLOCK
            free(3) = NOT_BLOCK
            free(4) = NOT_BLOCK
            """);
        script.run("len of r equals the number of words of that block", """
            new(16, 1)
            alloc(0, 2) = 0 | *
            alloc(1, 4) = 2 | *
            plant() | r2 tag=1 base=2 len=5 addr=2 | r3 tag=1 base=2 | r4 tag=1 base=2 len=-4 \
                | r5 tag=1 base=2 len=MAX | r6 tag=1 base=2 len=MIN | r7 tag=1 len=6
            free(2) = NOT_BLOCK
            free(3) = NOT_BLOCK
            free(4) = NOT_BLOCK
            free(5) = NOT_BLOCK
            free(6) = NOT_BLOCK
            # two blocks that lie side by side are not one
            free(7) = NOT_BLOCK
            """);
    }

    private static void heapEnds(Script script) {
        String sentence = "unless both base <= addr < base + len and 0 <= addr < H hold, the answer is `BOUNDS_FAULT`";
        String text = """
            new(8, 64)
            alloc(0, 8) = 0 | *
            # bounds that are wider than the heap: one below it, its ends, and one above it
            plant() | r1 tag=1 base=-5 len=60 addr=-1
            $access = BOUNDS_FAULT
            addAddr(1, 1) = OK | r1 addr=0
            $access = OK | *
            addAddr(1, 7) = OK | r1 addr=7
            $access = OK | *
            addAddr(1, 1) = OK | r1 addr=8
            $access = BOUNDS_FAULT
            # bounds that lie outside altogether
            plant() | r1 base=8 len=2
            $access = BOUNDS_FAULT
            plant() | r1 base=MAX len=MAX addr=MAX
            $access = BOUNDS_FAULT
            plant() | r1 base=MIN len=MAX addr=-2
            $access = BOUNDS_FAULT
            # no words at all, and fewer than none
            plant() | r1 base=3 len=0 addr=3
            $access = BOUNDS_FAULT
            plant() | r1 len=-1
            $access = BOUNDS_FAULT
            """;
        for (String access : new String[] {"storeData(1, 5)", "loadData(1)", "storeCap(1, 0)", "loadCap(2, 1)"}) {
            script.run(sentence, text.replace("$access", access));
        }
    }

    private static void exactSums(Script script) {
        String sentence = "`off + len` and `base + len` are compared as exact values even when they exceed the int range";
        script.run(sentence, """
            new(8, 64)
            alloc(0, 8) = 0 | *
            plant() | r1 tag=1 base=1 len=MAX addr=3
            storeData(1, 5) = OK | w3 value=5
            loadData(1) = OK | loaded=5
            storeCap(1, 0) = OK | w3 tag=1 len=8 value=0
            loadCap(2, 1) = OK | r2 tag=1 len=8
            # the exact sum is far below the address; wrapped around it would be 0
            plant() | r1 base=MIN len=MIN addr=-1
            loadData(1) = BOUNDS_FAULT
            plant() | r1 base=-5 len=MIN addr=3
            loadData(1) = BOUNDS_FAULT
            """);
        script.run(sentence, """
            new(8, 64)
            plant() | r1 tag=1 len=MAX
            restrict(2, 1, MAX, 1) = BAD_BOUNDS
            restrict(2, 1, 1, MAX) = BAD_BOUNDS
            restrict(2, 1, 0, MAX) = OK | r2 tag=1 len=MAX
            restrict(2, 1, 2147483646, 1) = OK | r2 base=2147483646 len=1 addr=2147483646
            """);
    }

    private static void freeWords(Script script) {
        String data = "its owner and state are unchanged, whatever the state is";
        script.run(data, """
            new(8, 64)
            plant() | r0 tag=1 len=8
            storeData(0, 5) = OK | w0 value=5
            mem(0, F_STATE) = FREE
            mem(0, F_OWNER) = 0
            """);
        script.run("The owner and state of w are unchanged", """
            new(8, 64)
            plant() | r0 tag=1 len=8
            storeCap(0, 0) = OK | w0 tag=1 len=8
            mem(0, F_STATE) = FREE
            mem(0, F_OWNER) = 0
            """);
        script.run("Words a..a+n-1 become LIVE with owner s, tag false, cbase = clen = value = 0.", """
            new(8, 64)
            plant() | w0-4 tag=1 base=3 len=2 value=9
            # words that were free and yet not empty, and the word behind the block stays as it was
            alloc(0, 4) = 0 | r0 tag=1 len=4 | w0-3 tag=0 base=0 len=0 value=0 owner=1 state=LIVE \
                | free=4 live=4 largest=4 allocs=1
            """);
    }
}
